section IVT
variable {F : gF} {nf : Nat}
theorem jv_rj_Model_checkThrough_156 (hF : jvF F) (T : gSt) (x1 : Int32) (x2 : Int32) (x3 : Int32) (h : I78 T) : jv (rj_Model_checkThrough_156 F nf T x1 x2 x3) := by
    unfold rj_Model_checkThrough_156
    repeat' first
      | with_reducible exact jv_none
      | with_reducible refine jv_some ?_
      | with_reducible refine jv_ite (fun _ => ?_) (fun _ => ?_)
      | with_reducible refine jv_gd ?_
      | with_reducible refine jv_stK ?_ (fun _ _ => ?_)
      | with_reducible refine jv_vK (fun _ => ?_)
      | with_reducible refine jv_lK (fun _ => ?_)
      | with_reducible refine jv_bi ?_ (fun _ _ _ _ => ?_)
      | with_reducible refine hF _ _ _ _ ?_ ?_
      | with_reducible refine jv_rj_Model_checkThrough_185 hF  _ _ _ _ _ _ ?_
      | assumption
      | with_reducible refine i78_sI ?_ (by decide) (by decide)
      | with_reducible refine i78_sJ ?_
      | with_reducible refine i78_sA ?_ (by decide) (by decide)
      | with_reducible exact jvA_o (by decide)
      | with_reducible refine jvA_13 ?_
      | decide
      | with_reducible exact nz_nle (by assumption)
theorem jv_rj_Model_checkThrough_103 (hF : jvF F) (T : gSt) (x1 : Int32) (x2 : Int32) (x3 : Int32) (x4 : Int32) (h : I78 T) : jv (rj_Model_checkThrough_103 F nf T x1 x2 x3 x4) := by
    unfold rj_Model_checkThrough_103
    repeat' first
      | with_reducible exact jv_none
      | with_reducible refine jv_some ?_
      | with_reducible refine jv_ite (fun _ => ?_) (fun _ => ?_)
      | with_reducible refine jv_gd ?_
      | with_reducible refine jv_stK ?_ (fun _ _ => ?_)
      | with_reducible refine jv_vK (fun _ => ?_)
      | with_reducible refine jv_lK (fun _ => ?_)
      | with_reducible refine jv_bi ?_ (fun _ _ _ _ => ?_)
      | with_reducible refine hF _ _ _ _ ?_ ?_
      | with_reducible refine jv_rj_Model_checkThrough_156 hF  _ _ _ _ ?_
      | assumption
      | with_reducible refine i78_sI ?_ (by decide) (by decide)
      | with_reducible refine i78_sJ ?_
      | with_reducible refine i78_sA ?_ (by decide) (by decide)
      | with_reducible exact jvA_o (by decide)
      | with_reducible refine jvA_13 ?_
      | decide
      | with_reducible exact nz_nle (by assumption)
theorem jv_rj_Model_checkThrough_63 (hF : jvF F) (T : gSt) (x1 : Int32) (x2 : Int32) (x3 : Int32) (y0 : Int32) (h : I78 T) : jv (rj_Model_checkThrough_63 F nf T x1 x2 x3 y0) := by
    unfold rj_Model_checkThrough_63
    repeat' first
      | with_reducible exact jv_none
      | with_reducible refine jv_some ?_
      | with_reducible refine jv_ite (fun _ => ?_) (fun _ => ?_)
      | with_reducible refine jv_gd ?_
      | with_reducible refine jv_stK ?_ (fun _ _ => ?_)
      | with_reducible refine jv_vK (fun _ => ?_)
      | with_reducible refine jv_lK (fun _ => ?_)
      | with_reducible refine jv_bi ?_ (fun _ _ _ _ => ?_)
      | with_reducible refine hF _ _ _ _ ?_ ?_
      | with_reducible refine jv_rj_Model_checkThrough_103 hF  _ _ _ _ _ ?_
      | assumption
      | with_reducible refine i78_sI ?_ (by decide) (by decide)
      | with_reducible refine i78_sJ ?_
      | with_reducible refine i78_sA ?_ (by decide) (by decide)
      | with_reducible exact jvA_o (by decide)
      | with_reducible refine jvA_13 ?_
      | decide
      | with_reducible exact nz_nle (by assumption)
theorem jv_rj_Model_checkThrough_28 (hF : jvF F) (T : gSt) (x1 : Int32) (x2 : Int32) (y0 : Int32) (h : I78 T) : jv (rj_Model_checkThrough_28 F nf T x1 x2 y0) := by
    unfold rj_Model_checkThrough_28
    repeat' first
      | with_reducible exact jv_none
      | with_reducible refine jv_some ?_
      | with_reducible refine jv_ite (fun _ => ?_) (fun _ => ?_)
      | with_reducible refine jv_gd ?_
      | with_reducible refine jv_stK ?_ (fun _ _ => ?_)
      | with_reducible refine jv_vK (fun _ => ?_)
      | with_reducible refine jv_lK (fun _ => ?_)
      | with_reducible refine jv_bi ?_ (fun _ _ _ _ => ?_)
      | with_reducible refine hF _ _ _ _ ?_ ?_
      | with_reducible refine jv_rj_Model_checkThrough_63 hF  _ _ _ _ _ ?_
      | assumption
      | with_reducible refine i78_sI ?_ (by decide) (by decide)
      | with_reducible refine i78_sJ ?_
      | with_reducible refine i78_sA ?_ (by decide) (by decide)
      | with_reducible exact jvA_o (by decide)
      | with_reducible refine jvA_13 ?_
      | decide
      | with_reducible exact nz_nle (by assumption)
theorem jv_rb_Model_checkThrough (hF : jvF F) (T : gSt) (p1 : Int32) (h : I78 T) : jv (rb_Model_checkThrough F nf T p1) := by
    unfold rb_Model_checkThrough
    repeat' first
      | with_reducible exact jv_none
      | with_reducible refine jv_some ?_
      | with_reducible refine jv_ite (fun _ => ?_) (fun _ => ?_)
      | with_reducible refine jv_gd ?_
      | with_reducible refine jv_stK ?_ (fun _ _ => ?_)
      | with_reducible refine jv_vK (fun _ => ?_)
      | with_reducible refine jv_lK (fun _ => ?_)
      | with_reducible refine jv_bi ?_ (fun _ _ _ _ => ?_)
      | with_reducible refine hF _ _ _ _ ?_ ?_
      | with_reducible refine jv_rj_Model_checkThrough_28 hF  _ _ _ _ ?_
      | assumption
      | with_reducible refine i78_sI ?_ (by decide) (by decide)
      | with_reducible refine i78_sJ ?_
      | with_reducible refine i78_sA ?_ (by decide) (by decide)
      | with_reducible exact jvA_o (by decide)
      | with_reducible refine jvA_13 ?_
      | decide
      | with_reducible exact nz_nle (by assumption)
theorem jv_rj_Model_checkIndex_111 (hF : jvF F) (T : gSt) (x2 : Int32) (h : I78 T) : jv (rj_Model_checkIndex_111 F nf T x2) := by
    unfold rj_Model_checkIndex_111
    repeat' first
      | with_reducible exact jv_none
      | with_reducible refine jv_some ?_
      | with_reducible refine jv_ite (fun _ => ?_) (fun _ => ?_)
      | with_reducible refine jv_gd ?_
      | with_reducible refine jv_stK ?_ (fun _ _ => ?_)
      | with_reducible refine jv_vK (fun _ => ?_)
      | with_reducible refine jv_lK (fun _ => ?_)
      | with_reducible refine jv_bi ?_ (fun _ _ _ _ => ?_)
      | with_reducible refine hF _ _ _ _ ?_ ?_
      | assumption
      | with_reducible refine i78_sI ?_ (by decide) (by decide)
      | with_reducible refine i78_sJ ?_
      | with_reducible refine i78_sA ?_ (by decide) (by decide)
      | with_reducible exact jvA_o (by decide)
      | with_reducible refine jvA_13 ?_
      | decide
      | with_reducible exact nz_nle (by assumption)
theorem jv_rb_Model_checkIndex (hF : jvF F) (T : gSt) (p1 : Int32) (h : I78 T) : jv (rb_Model_checkIndex F nf T p1) := by
    unfold rb_Model_checkIndex
    repeat' first
      | with_reducible exact jv_none
      | with_reducible refine jv_some ?_
      | with_reducible refine jv_ite (fun _ => ?_) (fun _ => ?_)
      | with_reducible refine jv_gd ?_
      | with_reducible refine jv_stK ?_ (fun _ _ => ?_)
      | with_reducible refine jv_vK (fun _ => ?_)
      | with_reducible refine jv_lK (fun _ => ?_)
      | with_reducible refine jv_bi ?_ (fun _ _ _ _ => ?_)
      | with_reducible refine hF _ _ _ _ ?_ ?_
      | with_reducible refine jv_rj_Model_checkIndex_111 hF  _ _ ?_
      | assumption
      | with_reducible refine i78_sI ?_ (by decide) (by decide)
      | with_reducible refine i78_sJ ?_
      | with_reducible refine i78_sA ?_ (by decide) (by decide)
      | with_reducible exact jvA_o (by decide)
      | with_reducible refine jvA_13 ?_
      | decide
      | with_reducible exact nz_nle (by assumption)
theorem jv_rj_Model_checkAnd_108 (hF : jvF F) (T : gSt) (x3 : Int32) (x4 : Int32) (h : I78 T) : jv (rj_Model_checkAnd_108 F nf T x3 x4) := by
    unfold rj_Model_checkAnd_108
    repeat' first
      | with_reducible exact jv_none
      | with_reducible refine jv_some ?_
      | with_reducible refine jv_ite (fun _ => ?_) (fun _ => ?_)
      | with_reducible refine jv_gd ?_
      | with_reducible refine jv_stK ?_ (fun _ _ => ?_)
      | with_reducible refine jv_vK (fun _ => ?_)
      | with_reducible refine jv_lK (fun _ => ?_)
      | with_reducible refine jv_bi ?_ (fun _ _ _ _ => ?_)
      | with_reducible refine hF _ _ _ _ ?_ ?_
      | assumption
      | with_reducible refine i78_sI ?_ (by decide) (by decide)
      | with_reducible refine i78_sJ ?_
      | with_reducible refine i78_sA ?_ (by decide) (by decide)
      | with_reducible exact jvA_o (by decide)
      | with_reducible refine jvA_13 ?_
      | decide
      | with_reducible exact nz_nle (by assumption)
theorem jv_rj_Model_checkAnd_42 (hF : jvF F) (T : gSt) (x2 : Int32) (h : I78 T) : jv (rj_Model_checkAnd_42 F nf T x2) := by
    unfold rj_Model_checkAnd_42
    repeat' first
      | with_reducible exact jv_none
      | with_reducible refine jv_some ?_
      | with_reducible refine jv_ite (fun _ => ?_) (fun _ => ?_)
      | with_reducible refine jv_gd ?_
      | with_reducible refine jv_stK ?_ (fun _ _ => ?_)
      | with_reducible refine jv_vK (fun _ => ?_)
      | with_reducible refine jv_lK (fun _ => ?_)
      | with_reducible refine jv_bi ?_ (fun _ _ _ _ => ?_)
      | with_reducible refine hF _ _ _ _ ?_ ?_
      | with_reducible refine jv_rj_Model_checkAnd_108 hF  _ _ _ ?_
      | assumption
      | with_reducible refine i78_sI ?_ (by decide) (by decide)
      | with_reducible refine i78_sJ ?_
      | with_reducible refine i78_sA ?_ (by decide) (by decide)
      | with_reducible exact jvA_o (by decide)
      | with_reducible refine jvA_13 ?_
      | decide
      | with_reducible exact nz_nle (by assumption)
theorem jv_rb_Model_checkAnd (hF : jvF F) (T : gSt) (p1 : Int32) (h : I78 T) : jv (rb_Model_checkAnd F nf T p1) := by
    unfold rb_Model_checkAnd
    repeat' first
      | with_reducible exact jv_none
      | with_reducible refine jv_some ?_
      | with_reducible refine jv_ite (fun _ => ?_) (fun _ => ?_)
      | with_reducible refine jv_gd ?_
      | with_reducible refine jv_stK ?_ (fun _ _ => ?_)
      | with_reducible refine jv_vK (fun _ => ?_)
      | with_reducible refine jv_lK (fun _ => ?_)
      | with_reducible refine jv_bi ?_ (fun _ _ _ _ => ?_)
      | with_reducible refine hF _ _ _ _ ?_ ?_
      | with_reducible refine jv_rj_Model_checkAnd_42 hF  _ _ ?_
      | assumption
      | with_reducible refine i78_sI ?_ (by decide) (by decide)
      | with_reducible refine i78_sJ ?_
      | with_reducible refine i78_sA ?_ (by decide) (by decide)
      | with_reducible exact jvA_o (by decide)
      | with_reducible refine jvA_13 ?_
      | decide
      | with_reducible exact nz_nle (by assumption)
theorem jv_rj_Model_checkMade_96 (hF : jvF F) (T : gSt) (x1 : Int32) (x2 : Int32) (x4 : Int32) (h : I78 T) : jv (rj_Model_checkMade_96 F nf T x1 x2 x4) := by
    unfold rj_Model_checkMade_96
    repeat' first
      | with_reducible exact jv_none
      | with_reducible refine jv_some ?_
      | with_reducible refine jv_ite (fun _ => ?_) (fun _ => ?_)
      | with_reducible refine jv_gd ?_
      | with_reducible refine jv_stK ?_ (fun _ _ => ?_)
      | with_reducible refine jv_vK (fun _ => ?_)
      | with_reducible refine jv_lK (fun _ => ?_)
      | with_reducible refine jv_bi ?_ (fun _ _ _ _ => ?_)
      | with_reducible refine hF _ _ _ _ ?_ ?_
      | assumption
      | with_reducible refine i78_sI ?_ (by decide) (by decide)
      | with_reducible refine i78_sJ ?_
      | with_reducible refine i78_sA ?_ (by decide) (by decide)
      | with_reducible exact jvA_o (by decide)
      | with_reducible refine jvA_13 ?_
      | decide
      | with_reducible exact nz_nle (by assumption)
theorem jv_rj_Model_checkMade_65 (hF : jvF F) (T : gSt) (x1 : Int32) (x2 : Int32) (y0 : Int32) (h : I78 T) : jv (rj_Model_checkMade_65 F nf T x1 x2 y0) := by
    unfold rj_Model_checkMade_65
    repeat' first
      | with_reducible exact jv_none
      | with_reducible refine jv_some ?_
      | with_reducible refine jv_ite (fun _ => ?_) (fun _ => ?_)
      | with_reducible refine jv_gd ?_
      | with_reducible refine jv_stK ?_ (fun _ _ => ?_)
      | with_reducible refine jv_vK (fun _ => ?_)
      | with_reducible refine jv_lK (fun _ => ?_)
      | with_reducible refine jv_bi ?_ (fun _ _ _ _ => ?_)
      | with_reducible refine hF _ _ _ _ ?_ ?_
      | with_reducible refine jv_rj_Model_checkMade_96 hF  _ _ _ _ ?_
      | assumption
      | with_reducible refine i78_sI ?_ (by decide) (by decide)
      | with_reducible refine i78_sJ ?_
      | with_reducible refine i78_sA ?_ (by decide) (by decide)
      | with_reducible exact jvA_o (by decide)
      | with_reducible refine jvA_13 ?_
      | decide
      | with_reducible exact nz_nle (by assumption)
theorem jv_rj_Model_checkMade_39 (hF : jvF F) (T : gSt) (x1 : Int32) (x2 : Int32) (h : I78 T) : jv (rj_Model_checkMade_39 F nf T x1 x2) := by
    unfold rj_Model_checkMade_39
    repeat' first
      | with_reducible exact jv_none
      | with_reducible refine jv_some ?_
      | with_reducible refine jv_ite (fun _ => ?_) (fun _ => ?_)
      | with_reducible refine jv_gd ?_
      | with_reducible refine jv_stK ?_ (fun _ _ => ?_)
      | with_reducible refine jv_vK (fun _ => ?_)
      | with_reducible refine jv_lK (fun _ => ?_)
      | with_reducible refine jv_bi ?_ (fun _ _ _ _ => ?_)
      | with_reducible refine hF _ _ _ _ ?_ ?_
      | with_reducible refine jv_rj_Model_checkMade_65 hF  _ _ _ _ ?_
      | assumption
      | with_reducible refine i78_sI ?_ (by decide) (by decide)
      | with_reducible refine i78_sJ ?_
      | with_reducible refine i78_sA ?_ (by decide) (by decide)
      | with_reducible exact jvA_o (by decide)
      | with_reducible refine jvA_13 ?_
      | decide
      | with_reducible exact nz_nle (by assumption)
theorem jv_rb_Model_checkMade (hF : jvF F) (T : gSt) (p1 : Int32) (h : I78 T) : jv (rb_Model_checkMade F nf T p1) := by
    unfold rb_Model_checkMade
    repeat' first
      | with_reducible exact jv_none
      | with_reducible refine jv_some ?_
      | with_reducible refine jv_ite (fun _ => ?_) (fun _ => ?_)
      | with_reducible refine jv_gd ?_
      | with_reducible refine jv_stK ?_ (fun _ _ => ?_)
      | with_reducible refine jv_vK (fun _ => ?_)
      | with_reducible refine jv_lK (fun _ => ?_)
      | with_reducible refine jv_bi ?_ (fun _ _ _ _ => ?_)
      | with_reducible refine hF _ _ _ _ ?_ ?_
      | with_reducible refine jv_rj_Model_checkMade_39 hF  _ _ _ ?_
      | assumption
      | with_reducible refine i78_sI ?_ (by decide) (by decide)
      | with_reducible refine i78_sJ ?_
      | with_reducible refine i78_sA ?_ (by decide) (by decide)
      | with_reducible exact jvA_o (by decide)
      | with_reducible refine jvA_13 ?_
      | decide
      | with_reducible exact nz_nle (by assumption)
theorem jv_rj_Model_checkNew_346 (hF : jvF F) (T : gSt) (x2 : Int32) (x3 : Int32) (x4 : Int32) (h : I78 T) : jv (rj_Model_checkNew_346 F nf T x2 x3 x4) := by
    unfold rj_Model_checkNew_346
    repeat' first
      | with_reducible exact jv_none
      | with_reducible refine jv_some ?_
      | with_reducible refine jv_ite (fun _ => ?_) (fun _ => ?_)
      | with_reducible refine jv_gd ?_
      | with_reducible refine jv_stK ?_ (fun _ _ => ?_)
      | with_reducible refine jv_vK (fun _ => ?_)
      | with_reducible refine jv_lK (fun _ => ?_)
      | with_reducible refine jv_bi ?_ (fun _ _ _ _ => ?_)
      | with_reducible refine hF _ _ _ _ ?_ ?_
      | assumption
      | with_reducible refine i78_sI ?_ (by decide) (by decide)
      | with_reducible refine i78_sJ ?_
      | with_reducible refine i78_sA ?_ (by decide) (by decide)
      | with_reducible exact jvA_o (by decide)
      | with_reducible refine jvA_13 ?_
      | decide
      | with_reducible exact nz_nle (by assumption)
theorem jv_rj_Model_checkNew_259 (hF : jvF F) (T : gSt) (x1 : Int32) (x2 : Int32) (x3 : Int32) (x4 : Int32) (x6 : Int32) (h : I78 T) : jv (rj_Model_checkNew_259 F nf T x1 x2 x3 x4 x6) := by
    unfold rj_Model_checkNew_259
    repeat' first
      | with_reducible exact jv_none
      | with_reducible refine jv_some ?_
      | with_reducible refine jv_ite (fun _ => ?_) (fun _ => ?_)
      | with_reducible refine jv_gd ?_
      | with_reducible refine jv_stK ?_ (fun _ _ => ?_)
      | with_reducible refine jv_vK (fun _ => ?_)
      | with_reducible refine jv_lK (fun _ => ?_)
      | with_reducible refine jv_bi ?_ (fun _ _ _ _ => ?_)
      | with_reducible refine hF _ _ _ _ ?_ ?_
      | with_reducible refine jv_rj_Model_checkNew_346 hF  _ _ _ _ ?_
      | assumption
      | with_reducible refine i78_sI ?_ (by decide) (by decide)
      | with_reducible refine i78_sJ ?_
      | with_reducible refine i78_sA ?_ (by decide) (by decide)
      | with_reducible exact jvA_o (by decide)
      | with_reducible refine jvA_13 ?_
      | decide
      | with_reducible exact nz_nle (by assumption)
theorem jv_rj_Model_checkNew_206 (hF : jvF F) (T : gSt) (x1 : Int32) (x2 : Int32) (x3 : Int32) (x4 : Int32) (x5 : Int32) (h : I78 T) : jv (rj_Model_checkNew_206 F nf T x1 x2 x3 x4 x5) := by
    unfold rj_Model_checkNew_206
    repeat' first
      | with_reducible exact jv_none
      | with_reducible refine jv_some ?_
      | with_reducible refine jv_ite (fun _ => ?_) (fun _ => ?_)
      | with_reducible refine jv_gd ?_
      | with_reducible refine jv_stK ?_ (fun _ _ => ?_)
      | with_reducible refine jv_vK (fun _ => ?_)
      | with_reducible refine jv_lK (fun _ => ?_)
      | with_reducible refine jv_bi ?_ (fun _ _ _ _ => ?_)
      | with_reducible refine hF _ _ _ _ ?_ ?_
      | with_reducible refine jv_rj_Model_checkNew_259 hF  _ _ _ _ _ _ ?_
      | with_reducible refine jv_rj_Model_checkNew_346 hF  _ _ _ _ ?_
      | assumption
      | with_reducible refine i78_sI ?_ (by decide) (by decide)
      | with_reducible refine i78_sJ ?_
      | with_reducible refine i78_sA ?_ (by decide) (by decide)
      | with_reducible exact jvA_o (by decide)
      | with_reducible refine jvA_13 ?_
      | decide
      | with_reducible exact nz_nle (by assumption)
theorem jv_rj_Model_checkNew_137 (hF : jvF F) (T : gSt) (x1 : Int32) (x2 : Int32) (x3 : Int32) (x4 : Int32) (x5 : Int32) (y0 : Int32) (y1 : Int32) (h : I78 T) : jv (rj_Model_checkNew_137 F nf T x1 x2 x3 x4 x5 y0 y1) := by
    unfold rj_Model_checkNew_137
    repeat' first
      | with_reducible exact jv_none
      | with_reducible refine jv_some ?_
      | with_reducible refine jv_ite (fun _ => ?_) (fun _ => ?_)
      | with_reducible refine jv_gd ?_
      | with_reducible refine jv_stK ?_ (fun _ _ => ?_)
      | with_reducible refine jv_vK (fun _ => ?_)
      | with_reducible refine jv_lK (fun _ => ?_)
      | with_reducible refine jv_bi ?_ (fun _ _ _ _ => ?_)
      | with_reducible refine hF _ _ _ _ ?_ ?_
      | with_reducible refine jv_rj_Model_checkNew_206 hF  _ _ _ _ _ _ ?_
      | assumption
      | with_reducible refine i78_sI ?_ (by decide) (by decide)
      | with_reducible refine i78_sJ ?_
      | with_reducible refine i78_sA ?_ (by decide) (by decide)
      | with_reducible exact jvA_o (by decide)
      | with_reducible refine jvA_13 ?_
      | decide
      | with_reducible exact nz_nle (by assumption)
theorem jv_rj_Model_checkNew_76 (hF : jvF F) (T : gSt) (x1 : Int32) (x2 : Int32) (x3 : Int32) (h : I78 T) : jv (rj_Model_checkNew_76 F nf T x1 x2 x3) := by
    unfold rj_Model_checkNew_76
    repeat' first
      | with_reducible exact jv_none
      | with_reducible refine jv_some ?_
      | with_reducible refine jv_ite (fun _ => ?_) (fun _ => ?_)
      | with_reducible refine jv_gd ?_
      | with_reducible refine jv_stK ?_ (fun _ _ => ?_)
      | with_reducible refine jv_vK (fun _ => ?_)
      | with_reducible refine jv_lK (fun _ => ?_)
      | with_reducible refine jv_bi ?_ (fun _ _ _ _ => ?_)
      | with_reducible refine hF _ _ _ _ ?_ ?_
      | with_reducible refine jv_rj_Model_checkNew_137 hF  _ _ _ _ _ _ _ _ ?_
      | assumption
      | with_reducible refine i78_sI ?_ (by decide) (by decide)
      | with_reducible refine i78_sJ ?_
      | with_reducible refine i78_sA ?_ (by decide) (by decide)
      | with_reducible exact jvA_o (by decide)
      | with_reducible refine jvA_13 ?_
      | decide
      | with_reducible exact nz_nle (by assumption)
theorem jv_rb_Model_checkNew (hF : jvF F) (T : gSt) (p1 : Int32) (h : I78 T) : jv (rb_Model_checkNew F nf T p1) := by
    unfold rb_Model_checkNew
    repeat' first
      | with_reducible exact jv_none
      | with_reducible refine jv_some ?_
      | with_reducible refine jv_ite (fun _ => ?_) (fun _ => ?_)
      | with_reducible refine jv_gd ?_
      | with_reducible refine jv_stK ?_ (fun _ _ => ?_)
      | with_reducible refine jv_vK (fun _ => ?_)
      | with_reducible refine jv_lK (fun _ => ?_)
      | with_reducible refine jv_bi ?_ (fun _ _ _ _ => ?_)
      | with_reducible refine hF _ _ _ _ ?_ ?_
      | with_reducible refine jv_rj_Model_checkNew_76 hF  _ _ _ _ ?_
      | assumption
      | with_reducible refine i78_sI ?_ (by decide) (by decide)
      | with_reducible refine i78_sJ ?_
      | with_reducible refine i78_sA ?_ (by decide) (by decide)
      | with_reducible exact jvA_o (by decide)
      | with_reducible refine jvA_13 ?_
      | decide
      | with_reducible exact nz_nle (by assumption)
theorem jv_rl_Model_fitAll_16 (hF : jvF F) : ∀ (n : Nat) (T : gSt) (x0 : Int32) (x1 : Int32) (x2 : Int32), I78 T → jv (rl_Model_fitAll_16 F nf n T x0 x1 x2) := by
  intro n
  induction n with
  | zero =>
    intro T x0 x1 x2 h
    rw [rl_Model_fitAll_16]
    exact jv_none
  | succ n ih =>
    intro T x0 x1 x2 h
    rw [rl_Model_fitAll_16]
    repeat' first
      | with_reducible exact jv_none
      | with_reducible refine jv_some ?_
      | with_reducible refine jv_ite (fun _ => ?_) (fun _ => ?_)
      | with_reducible refine jv_gd ?_
      | with_reducible refine jv_stK ?_ (fun _ _ => ?_)
      | with_reducible refine jv_vK (fun _ => ?_)
      | with_reducible refine jv_lK (fun _ => ?_)
      | with_reducible refine jv_bi ?_ (fun _ _ _ _ => ?_)
      | with_reducible refine hF _ _ _ _ ?_ ?_
      | with_reducible refine ih _ _ _ _ ?_
      | assumption
      | with_reducible refine i78_sI ?_ (by decide) (by decide)
      | with_reducible refine i78_sJ ?_
      | with_reducible refine i78_sA ?_ (by decide) (by decide)
      | with_reducible exact jvA_o (by decide)
      | with_reducible refine jvA_13 ?_
      | decide
      | with_reducible exact nz_nle (by assumption)
theorem jv_rb_Model_fitAll (hF : jvF F) (T : gSt) (p1 : Int32) (p2 : Int32) (p3 : Int32) (h : I78 T) : jv (rb_Model_fitAll F nf T p1 p2 p3) := by
    unfold rb_Model_fitAll
    repeat' first
      | with_reducible exact jv_none
      | with_reducible refine jv_some ?_
      | with_reducible refine jv_ite (fun _ => ?_) (fun _ => ?_)
      | with_reducible refine jv_gd ?_
      | with_reducible refine jv_stK ?_ (fun _ _ => ?_)
      | with_reducible refine jv_vK (fun _ => ?_)
      | with_reducible refine jv_lK (fun _ => ?_)
      | with_reducible refine jv_bi ?_ (fun _ _ _ _ => ?_)
      | with_reducible refine hF _ _ _ _ ?_ ?_
      | with_reducible refine jv_rl_Model_fitAll_16 hF  _ _ _ _ _ ?_
      | assumption
      | with_reducible refine i78_sI ?_ (by decide) (by decide)
      | with_reducible refine i78_sJ ?_
      | with_reducible refine i78_sA ?_ (by decide) (by decide)
      | with_reducible exact jvA_o (by decide)
      | with_reducible refine jvA_13 ?_
      | decide
      | with_reducible exact nz_nle (by assumption)
theorem jv_rj_Model_checkCall_317 (hF : jvF F) (T : gSt) (x1 : Int32) (x2 : Int32) (x3 : Int32) (h : I78 T) : jv (rj_Model_checkCall_317 F nf T x1 x2 x3) := by
    unfold rj_Model_checkCall_317
    repeat' first
      | with_reducible exact jv_none
      | with_reducible refine jv_some ?_
      | with_reducible refine jv_ite (fun _ => ?_) (fun _ => ?_)
      | with_reducible refine jv_gd ?_
      | with_reducible refine jv_stK ?_ (fun _ _ => ?_)
      | with_reducible refine jv_vK (fun _ => ?_)
      | with_reducible refine jv_lK (fun _ => ?_)
      | with_reducible refine jv_bi ?_ (fun _ _ _ _ => ?_)
      | with_reducible refine hF _ _ _ _ ?_ ?_
      | assumption
      | with_reducible refine i78_sI ?_ (by decide) (by decide)
      | with_reducible refine i78_sJ ?_
      | with_reducible refine i78_sA ?_ (by decide) (by decide)
      | with_reducible exact jvA_o (by decide)
      | with_reducible refine jvA_13 ?_
      | decide
      | with_reducible exact nz_nle (by assumption)
theorem jv_rl_Model_checkCall_205 (hF : jvF F) : ∀ (n : Nat) (T : gSt) (x0 : Int32) (x1 : Int32) (x2 : Int32) (x3 : Int32), I78 T → jv (rl_Model_checkCall_205 F nf n T x0 x1 x2 x3) := by
  intro n
  induction n with
  | zero =>
    intro T x0 x1 x2 x3 h
    rw [rl_Model_checkCall_205]
    exact jv_none
  | succ n ih =>
    intro T x0 x1 x2 x3 h
    rw [rl_Model_checkCall_205]
    repeat' first
      | with_reducible exact jv_none
      | with_reducible refine jv_some ?_
      | with_reducible refine jv_ite (fun _ => ?_) (fun _ => ?_)
      | with_reducible refine jv_gd ?_
      | with_reducible refine jv_stK ?_ (fun _ _ => ?_)
      | with_reducible refine jv_vK (fun _ => ?_)
      | with_reducible refine jv_lK (fun _ => ?_)
      | with_reducible refine jv_bi ?_ (fun _ _ _ _ => ?_)
      | with_reducible refine hF _ _ _ _ ?_ ?_
      | with_reducible refine jv_rj_Model_checkCall_317 hF  _ _ _ _ ?_
      | with_reducible refine ih _ _ _ _ _ ?_
      | assumption
      | with_reducible refine i78_sI ?_ (by decide) (by decide)
      | with_reducible refine i78_sJ ?_
      | with_reducible refine i78_sA ?_ (by decide) (by decide)
      | with_reducible exact jvA_o (by decide)
      | with_reducible refine jvA_13 ?_
      | decide
      | with_reducible exact nz_nle (by assumption)
theorem jv_rl_Model_checkCall_130 (hF : jvF F) : ∀ (n : Nat) (T : gSt) (x0 : Int32) (x1 : Int32) (x2 : Int32) (x3 : Int32), I78 T → jv (rl_Model_checkCall_130 F nf n T x0 x1 x2 x3) := by
  intro n
  induction n with
  | zero =>
    intro T x0 x1 x2 x3 h
    rw [rl_Model_checkCall_130]
    exact jv_none
  | succ n ih =>
    intro T x0 x1 x2 x3 h
    rw [rl_Model_checkCall_130]
    repeat' first
      | with_reducible exact jv_none
      | with_reducible refine jv_some ?_
      | with_reducible refine jv_ite (fun _ => ?_) (fun _ => ?_)
      | with_reducible refine jv_gd ?_
      | with_reducible refine jv_stK ?_ (fun _ _ => ?_)
      | with_reducible refine jv_vK (fun _ => ?_)
      | with_reducible refine jv_lK (fun _ => ?_)
      | with_reducible refine jv_bi ?_ (fun _ _ _ _ => ?_)
      | with_reducible refine hF _ _ _ _ ?_ ?_
      | with_reducible refine jv_rl_Model_checkCall_205 hF  _ _ _ _ _ _ ?_
      | with_reducible refine ih _ _ _ _ _ ?_
      | assumption
      | with_reducible refine i78_sI ?_ (by decide) (by decide)
      | with_reducible refine i78_sJ ?_
      | with_reducible refine i78_sA ?_ (by decide) (by decide)
      | with_reducible exact jvA_o (by decide)
      | with_reducible refine jvA_13 ?_
      | decide
      | with_reducible exact nz_nle (by assumption)
theorem jv_rj_Model_checkCall_80 (hF : jvF F) (T : gSt) (x1 : Int32) (x2 : Int32) (y0 : Int32) (y1 : Int32) (h : I78 T) : jv (rj_Model_checkCall_80 F nf T x1 x2 y0 y1) := by
    unfold rj_Model_checkCall_80
    repeat' first
      | with_reducible exact jv_none
      | with_reducible refine jv_some ?_
      | with_reducible refine jv_ite (fun _ => ?_) (fun _ => ?_)
      | with_reducible refine jv_gd ?_
      | with_reducible refine jv_stK ?_ (fun _ _ => ?_)
      | with_reducible refine jv_vK (fun _ => ?_)
      | with_reducible refine jv_lK (fun _ => ?_)
      | with_reducible refine jv_bi ?_ (fun _ _ _ _ => ?_)
      | with_reducible refine hF _ _ _ _ ?_ ?_
      | with_reducible refine jv_rl_Model_checkCall_130 hF  _ _ _ _ _ _ ?_
      | assumption
      | with_reducible refine i78_sI ?_ (by decide) (by decide)
      | with_reducible refine i78_sJ ?_
      | with_reducible refine i78_sA ?_ (by decide) (by decide)
      | with_reducible exact jvA_o (by decide)
      | with_reducible refine jvA_13 ?_
      | decide
      | with_reducible exact nz_nle (by assumption)
theorem jv_rj_Model_checkCall_56 (hF : jvF F) (T : gSt) (x1 : Int32) (x2 : Int32) (h : I78 T) : jv (rj_Model_checkCall_56 F nf T x1 x2) := by
    unfold rj_Model_checkCall_56
    repeat' first
      | with_reducible exact jv_none
      | with_reducible refine jv_some ?_
      | with_reducible refine jv_ite (fun _ => ?_) (fun _ => ?_)
      | with_reducible refine jv_gd ?_
      | with_reducible refine jv_stK ?_ (fun _ _ => ?_)
      | with_reducible refine jv_vK (fun _ => ?_)
      | with_reducible refine jv_lK (fun _ => ?_)
      | with_reducible refine jv_bi ?_ (fun _ _ _ _ => ?_)
      | with_reducible refine hF _ _ _ _ ?_ ?_
      | with_reducible refine jv_rj_Model_checkCall_80 hF  _ _ _ _ _ ?_
      | assumption
      | with_reducible refine i78_sI ?_ (by decide) (by decide)
      | with_reducible refine i78_sJ ?_
      | with_reducible refine i78_sA ?_ (by decide) (by decide)
      | with_reducible exact jvA_o (by decide)
      | with_reducible refine jvA_13 ?_
      | decide
      | with_reducible exact nz_nle (by assumption)
theorem jv_rb_Model_checkCall (hF : jvF F) (T : gSt) (p1 : Int32) (h : I78 T) : jv (rb_Model_checkCall F nf T p1) := by
    unfold rb_Model_checkCall
    repeat' first
      | with_reducible exact jv_none
      | with_reducible refine jv_some ?_
      | with_reducible refine jv_ite (fun _ => ?_) (fun _ => ?_)
      | with_reducible refine jv_gd ?_
      | with_reducible refine jv_stK ?_ (fun _ _ => ?_)
      | with_reducible refine jv_vK (fun _ => ?_)
      | with_reducible refine jv_lK (fun _ => ?_)
      | with_reducible refine jv_bi ?_ (fun _ _ _ _ => ?_)
      | with_reducible refine hF _ _ _ _ ?_ ?_
      | with_reducible refine jv_rj_Model_checkCall_56 hF  _ _ _ ?_
      | assumption
      | with_reducible refine i78_sI ?_ (by decide) (by decide)
      | with_reducible refine i78_sJ ?_
      | with_reducible refine i78_sA ?_ (by decide) (by decide)
      | with_reducible exact jvA_o (by decide)
      | with_reducible refine jvA_13 ?_
      | decide
      | with_reducible exact nz_nle (by assumption)
theorem jv_rj_Model_checkOperator_276 (hF : jvF F) (T : gSt) (x1 : Int32) (x2 : Int32) (x3 : Int32) (h : I78 T) : jv (rj_Model_checkOperator_276 F nf T x1 x2 x3) := by
    unfold rj_Model_checkOperator_276
    repeat' first
      | with_reducible exact jv_none
      | with_reducible refine jv_some ?_
      | with_reducible refine jv_ite (fun _ => ?_) (fun _ => ?_)
      | with_reducible refine jv_gd ?_
      | with_reducible refine jv_stK ?_ (fun _ _ => ?_)
      | with_reducible refine jv_vK (fun _ => ?_)
      | with_reducible refine jv_lK (fun _ => ?_)
      | with_reducible refine jv_bi ?_ (fun _ _ _ _ => ?_)
      | with_reducible refine hF _ _ _ _ ?_ ?_
      | assumption
      | with_reducible refine i78_sI ?_ (by decide) (by decide)
      | with_reducible refine i78_sJ ?_
      | with_reducible refine i78_sA ?_ (by decide) (by decide)
      | with_reducible exact jvA_o (by decide)
      | with_reducible refine jvA_13 ?_
      | decide
      | with_reducible exact nz_nle (by assumption)
theorem jv_rj_Model_checkOperator_187 (hF : jvF F) (T : gSt) (x1 : Int32) (x2 : Int32) (x3 : Int32) (y0 : Int32) (h : I78 T) : jv (rj_Model_checkOperator_187 F nf T x1 x2 x3 y0) := by
    unfold rj_Model_checkOperator_187
    repeat' first
      | with_reducible exact jv_none
      | with_reducible refine jv_some ?_
      | with_reducible refine jv_ite (fun _ => ?_) (fun _ => ?_)
      | with_reducible refine jv_gd ?_
      | with_reducible refine jv_stK ?_ (fun _ _ => ?_)
      | with_reducible refine jv_vK (fun _ => ?_)
      | with_reducible refine jv_lK (fun _ => ?_)
      | with_reducible refine jv_bi ?_ (fun _ _ _ _ => ?_)
      | with_reducible refine hF _ _ _ _ ?_ ?_
      | assumption
      | with_reducible refine i78_sI ?_ (by decide) (by decide)
      | with_reducible refine i78_sJ ?_
      | with_reducible refine i78_sA ?_ (by decide) (by decide)
      | with_reducible exact jvA_o (by decide)
      | with_reducible refine jvA_13 ?_
      | decide
      | with_reducible exact nz_nle (by assumption)
theorem jv_rj_Model_checkOperator_97 (hF : jvF F) (T : gSt) (x1 : Int32) (x2 : Int32) (x3 : Int32) (x4 : Int32) (y0 : Int32) (h : I78 T) : jv (rj_Model_checkOperator_97 F nf T x1 x2 x3 x4 y0) := by
    unfold rj_Model_checkOperator_97
    repeat' first
      | with_reducible exact jv_none
      | with_reducible refine jv_some ?_
      | with_reducible refine jv_ite (fun _ => ?_) (fun _ => ?_)
      | with_reducible refine jv_gd ?_
      | with_reducible refine jv_stK ?_ (fun _ _ => ?_)
      | with_reducible refine jv_vK (fun _ => ?_)
      | with_reducible refine jv_lK (fun _ => ?_)
      | with_reducible refine jv_bi ?_ (fun _ _ _ _ => ?_)
      | with_reducible refine hF _ _ _ _ ?_ ?_
      | with_reducible refine jv_rj_Model_checkOperator_187 hF  _ _ _ _ _ ?_
      | with_reducible refine jv_rj_Model_checkOperator_276 hF  _ _ _ _ ?_
      | assumption
      | with_reducible refine i78_sI ?_ (by decide) (by decide)
      | with_reducible refine i78_sJ ?_
      | with_reducible refine i78_sA ?_ (by decide) (by decide)
      | with_reducible exact jvA_o (by decide)
      | with_reducible refine jvA_13 ?_
      | decide
      | with_reducible exact nz_nle (by assumption)
theorem jv_rj_Model_checkOperator_76 (hF : jvF F) (T : gSt) (x1 : Int32) (x2 : Int32) (x3 : Int32) (y0 : Int32) (h : I78 T) : jv (rj_Model_checkOperator_76 F nf T x1 x2 x3 y0) := by
    unfold rj_Model_checkOperator_76
    repeat' first
      | with_reducible exact jv_none
      | with_reducible refine jv_some ?_
      | with_reducible refine jv_ite (fun _ => ?_) (fun _ => ?_)
      | with_reducible refine jv_gd ?_
      | with_reducible refine jv_stK ?_ (fun _ _ => ?_)
      | with_reducible refine jv_vK (fun _ => ?_)
      | with_reducible refine jv_lK (fun _ => ?_)
      | with_reducible refine jv_bi ?_ (fun _ _ _ _ => ?_)
      | with_reducible refine hF _ _ _ _ ?_ ?_
      | with_reducible refine jv_rj_Model_checkOperator_97 hF  _ _ _ _ _ _ ?_
      | assumption
      | with_reducible refine i78_sI ?_ (by decide) (by decide)
      | with_reducible refine i78_sJ ?_
      | with_reducible refine i78_sA ?_ (by decide) (by decide)
      | with_reducible exact jvA_o (by decide)
      | with_reducible refine jvA_13 ?_
      | decide
      | with_reducible exact nz_nle (by assumption)
theorem jv_rj_Model_checkOperator_57 (hF : jvF F) (T : gSt) (x1 : Int32) (x2 : Int32) (x3 : Int32) (h : I78 T) : jv (rj_Model_checkOperator_57 F nf T x1 x2 x3) := by
    unfold rj_Model_checkOperator_57
    repeat' first
      | with_reducible exact jv_none
      | with_reducible refine jv_some ?_
      | with_reducible refine jv_ite (fun _ => ?_) (fun _ => ?_)
      | with_reducible refine jv_gd ?_
      | with_reducible refine jv_stK ?_ (fun _ _ => ?_)
      | with_reducible refine jv_vK (fun _ => ?_)
      | with_reducible refine jv_lK (fun _ => ?_)
      | with_reducible refine jv_bi ?_ (fun _ _ _ _ => ?_)
      | with_reducible refine hF _ _ _ _ ?_ ?_
      | with_reducible refine jv_rj_Model_checkOperator_76 hF  _ _ _ _ _ ?_
      | assumption
      | with_reducible refine i78_sI ?_ (by decide) (by decide)
      | with_reducible refine i78_sJ ?_
      | with_reducible refine i78_sA ?_ (by decide) (by decide)
      | with_reducible exact jvA_o (by decide)
      | with_reducible refine jvA_13 ?_
      | decide
      | with_reducible exact nz_nle (by assumption)
theorem jv_rb_Model_checkOperator (hF : jvF F) (T : gSt) (p1 : Int32) (h : I78 T) : jv (rb_Model_checkOperator F nf T p1) := by
    unfold rb_Model_checkOperator
    repeat' first
      | with_reducible exact jv_none
      | with_reducible refine jv_some ?_
      | with_reducible refine jv_ite (fun _ => ?_) (fun _ => ?_)
      | with_reducible refine jv_gd ?_
      | with_reducible refine jv_stK ?_ (fun _ _ => ?_)
      | with_reducible refine jv_vK (fun _ => ?_)
      | with_reducible refine jv_lK (fun _ => ?_)
      | with_reducible refine jv_bi ?_ (fun _ _ _ _ => ?_)
      | with_reducible refine hF _ _ _ _ ?_ ?_
      | with_reducible refine jv_rj_Model_checkOperator_57 hF  _ _ _ _ ?_
      | assumption
      | with_reducible refine i78_sI ?_ (by decide) (by decide)
      | with_reducible refine i78_sJ ?_
      | with_reducible refine i78_sA ?_ (by decide) (by decide)
      | with_reducible exact jvA_o (by decide)
      | with_reducible refine jvA_13 ?_
      | decide
      | with_reducible exact nz_nle (by assumption)
theorem jv_rb_Model_lay (hF : jvF F) (T : gSt) (p1 : Int32) (p2 : Int32) (p3 : Int32) (p4 : Int32) (h : I78 T) : jv (rb_Model_lay F nf T p1 p2 p3 p4) := by
    unfold rb_Model_lay
    repeat' first
      | with_reducible exact jv_none
      | with_reducible refine jv_some ?_
      | with_reducible refine jv_ite (fun _ => ?_) (fun _ => ?_)
      | with_reducible refine jv_gd ?_
      | with_reducible refine jv_stK ?_ (fun _ _ => ?_)
      | with_reducible refine jv_vK (fun _ => ?_)
      | with_reducible refine jv_lK (fun _ => ?_)
      | with_reducible refine jv_bi ?_ (fun _ _ _ _ => ?_)
      | with_reducible refine hF _ _ _ _ ?_ ?_
      | assumption
      | with_reducible refine i78_sI ?_ (by decide) (by decide)
      | with_reducible refine i78_sJ ?_
      | with_reducible refine i78_sA ?_ (by decide) (by decide)
      | with_reducible exact jvA_o (by decide)
      | with_reducible refine jvA_13 ?_
      | decide
      | with_reducible exact nz_nle (by assumption)
theorem jv_rl_Model_layOut_7 (hF : jvF F) : ∀ (n : Nat) (T : gSt) (x0 : Int32), I78 T → jv (rl_Model_layOut_7 F nf n T x0) := by
  intro n
  induction n with
  | zero =>
    intro T x0 h
    rw [rl_Model_layOut_7]
    exact jv_none
  | succ n ih =>
    intro T x0 h
    rw [rl_Model_layOut_7]
    repeat' first
      | with_reducible exact jv_none
      | with_reducible refine jv_some ?_
      | with_reducible refine jv_ite (fun _ => ?_) (fun _ => ?_)
      | with_reducible refine jv_gd ?_
      | with_reducible refine jv_stK ?_ (fun _ _ => ?_)
      | with_reducible refine jv_vK (fun _ => ?_)
      | with_reducible refine jv_lK (fun _ => ?_)
      | with_reducible refine jv_bi ?_ (fun _ _ _ _ => ?_)
      | with_reducible refine hF _ _ _ _ ?_ ?_
      | with_reducible refine ih _ _ ?_
      | assumption
      | with_reducible refine i78_sI ?_ (by decide) (by decide)
      | with_reducible refine i78_sJ ?_
      | with_reducible refine i78_sA ?_ (by decide) (by decide)
      | with_reducible exact jvA_o (by decide)
      | with_reducible refine jvA_13 ?_
      | decide
      | with_reducible exact nz_nle (by assumption)
theorem jv_rb_Model_layOut (hF : jvF F) (T : gSt) (h : I78 T) : jv (rb_Model_layOut F nf T) := by
    unfold rb_Model_layOut
    repeat' first
      | with_reducible exact jv_none
      | with_reducible refine jv_some ?_
      | with_reducible refine jv_ite (fun _ => ?_) (fun _ => ?_)
      | with_reducible refine jv_gd ?_
      | with_reducible refine jv_stK ?_ (fun _ _ => ?_)
      | with_reducible refine jv_vK (fun _ => ?_)
      | with_reducible refine jv_lK (fun _ => ?_)
      | with_reducible refine jv_bi ?_ (fun _ _ _ _ => ?_)
      | with_reducible refine hF _ _ _ _ ?_ ?_
      | with_reducible refine jv_rl_Model_layOut_7 hF  _ _ _ ?_
      | assumption
      | with_reducible refine i78_sI ?_ (by decide) (by decide)
      | with_reducible refine i78_sJ ?_
      | with_reducible refine i78_sA ?_ (by decide) (by decide)
      | with_reducible exact jvA_o (by decide)
      | with_reducible refine jvA_13 ?_
      | decide
      | with_reducible exact nz_nle (by assumption)
theorem jv_rl_Model_layBlock_7 (hF : jvF F) : ∀ (n : Nat) (T : gSt) (x0 : Int32), I78 T → jv (rl_Model_layBlock_7 F nf n T x0) := by
  intro n
  induction n with
  | zero =>
    intro T x0 h
    rw [rl_Model_layBlock_7]
    exact jv_none
  | succ n ih =>
    intro T x0 h
    rw [rl_Model_layBlock_7]
    repeat' first
      | with_reducible exact jv_none
      | with_reducible refine jv_some ?_
      | with_reducible refine jv_ite (fun _ => ?_) (fun _ => ?_)
      | with_reducible refine jv_gd ?_
      | with_reducible refine jv_stK ?_ (fun _ _ => ?_)
      | with_reducible refine jv_vK (fun _ => ?_)
      | with_reducible refine jv_lK (fun _ => ?_)
      | with_reducible refine jv_bi ?_ (fun _ _ _ _ => ?_)
      | with_reducible refine hF _ _ _ _ ?_ ?_
      | with_reducible refine ih _ _ ?_
      | assumption
      | with_reducible refine i78_sI ?_ (by decide) (by decide)
      | with_reducible refine i78_sJ ?_
      | with_reducible refine i78_sA ?_ (by decide) (by decide)
      | with_reducible exact jvA_o (by decide)
      | with_reducible refine jvA_13 ?_
      | decide
      | with_reducible exact nz_nle (by assumption)
theorem jv_rb_Model_layBlock (hF : jvF F) (T : gSt) (p1 : Int32) (h : I78 T) : jv (rb_Model_layBlock F nf T p1) := by
    unfold rb_Model_layBlock
    repeat' first
      | with_reducible exact jv_none
      | with_reducible refine jv_some ?_
      | with_reducible refine jv_ite (fun _ => ?_) (fun _ => ?_)
      | with_reducible refine jv_gd ?_
      | with_reducible refine jv_stK ?_ (fun _ _ => ?_)
      | with_reducible refine jv_vK (fun _ => ?_)
      | with_reducible refine jv_lK (fun _ => ?_)
      | with_reducible refine jv_bi ?_ (fun _ _ _ _ => ?_)
      | with_reducible refine hF _ _ _ _ ?_ ?_
      | with_reducible refine jv_rl_Model_layBlock_7 hF  _ _ _ ?_
      | assumption
      | with_reducible refine i78_sI ?_ (by decide) (by decide)
      | with_reducible refine i78_sJ ?_
      | with_reducible refine i78_sA ?_ (by decide) (by decide)
      | with_reducible exact jvA_o (by decide)
      | with_reducible refine jvA_13 ?_
      | decide
      | with_reducible exact nz_nle (by assumption)
theorem jv_rj_Model_layStep_553 (hF : jvF F) (T : gSt) (x1 : Int32) (y0 : Int32) (h : I78 T) : jv (rj_Model_layStep_553 F nf T x1 y0) := by
    unfold rj_Model_layStep_553
    repeat' first
      | with_reducible exact jv_none
      | with_reducible refine jv_some ?_
      | with_reducible refine jv_ite (fun _ => ?_) (fun _ => ?_)
      | with_reducible refine jv_gd ?_
      | with_reducible refine jv_stK ?_ (fun _ _ => ?_)
      | with_reducible refine jv_vK (fun _ => ?_)
      | with_reducible refine jv_lK (fun _ => ?_)
      | with_reducible refine jv_bi ?_ (fun _ _ _ _ => ?_)
      | with_reducible refine hF _ _ _ _ ?_ ?_
      | assumption
      | with_reducible refine i78_sI ?_ (by decide) (by decide)
      | with_reducible refine i78_sJ ?_
      | with_reducible refine i78_sA ?_ (by decide) (by decide)
      | with_reducible exact jvA_o (by decide)
      | with_reducible refine jvA_13 ?_
      | decide
      | with_reducible exact nz_nle (by assumption)
theorem jv_rj_Model_layStep_508 (hF : jvF F) (T : gSt) (x1 : Int32) (h : I78 T) : jv (rj_Model_layStep_508 F nf T x1) := by
    unfold rj_Model_layStep_508
    repeat' first
      | with_reducible exact jv_none
      | with_reducible refine jv_some ?_
      | with_reducible refine jv_ite (fun _ => ?_) (fun _ => ?_)
      | with_reducible refine jv_gd ?_
      | with_reducible refine jv_stK ?_ (fun _ _ => ?_)
      | with_reducible refine jv_vK (fun _ => ?_)
      | with_reducible refine jv_lK (fun _ => ?_)
      | with_reducible refine jv_bi ?_ (fun _ _ _ _ => ?_)
      | with_reducible refine hF _ _ _ _ ?_ ?_
      | with_reducible refine jv_rj_Model_layStep_553 hF  _ _ _ ?_
      | assumption
      | with_reducible refine i78_sI ?_ (by decide) (by decide)
      | with_reducible refine i78_sJ ?_
      | with_reducible refine i78_sA ?_ (by decide) (by decide)
      | with_reducible exact jvA_o (by decide)
      | with_reducible refine jvA_13 ?_
      | decide
      | with_reducible exact nz_nle (by assumption)
theorem jv_rj_Model_layStep_313 (hF : jvF F) (T : gSt) (x1 : Int32) (h : I78 T) : jv (rj_Model_layStep_313 F nf T x1) := by
    unfold rj_Model_layStep_313
    repeat' first
      | with_reducible exact jv_none
      | with_reducible refine jv_some ?_
      | with_reducible refine jv_ite (fun _ => ?_) (fun _ => ?_)
      | with_reducible refine jv_gd ?_
      | with_reducible refine jv_stK ?_ (fun _ _ => ?_)
      | with_reducible refine jv_vK (fun _ => ?_)
      | with_reducible refine jv_lK (fun _ => ?_)
      | with_reducible refine jv_bi ?_ (fun _ _ _ _ => ?_)
      | with_reducible refine hF _ _ _ _ ?_ ?_
      | assumption
      | with_reducible refine i78_sI ?_ (by decide) (by decide)
      | with_reducible refine i78_sJ ?_
      | with_reducible refine i78_sA ?_ (by decide) (by decide)
      | with_reducible exact jvA_o (by decide)
      | with_reducible refine jvA_13 ?_
      | decide
      | with_reducible exact nz_nle (by assumption)
theorem jv_rj_Model_layStep_258 (hF : jvF F) (T : gSt) (x1 : Int32) (x2 : Int32) (y0 : Int32) (y1 : Int32) (y2 : Int32) (h : I78 T) : jv (rj_Model_layStep_258 F nf T x1 x2 y0 y1 y2) := by
    unfold rj_Model_layStep_258
    repeat' first
      | with_reducible exact jv_none
      | with_reducible refine jv_some ?_
      | with_reducible refine jv_ite (fun _ => ?_) (fun _ => ?_)
      | with_reducible refine jv_gd ?_
      | with_reducible refine jv_stK ?_ (fun _ _ => ?_)
      | with_reducible refine jv_vK (fun _ => ?_)
      | with_reducible refine jv_lK (fun _ => ?_)
      | with_reducible refine jv_bi ?_ (fun _ _ _ _ => ?_)
      | with_reducible refine hF _ _ _ _ ?_ ?_
      | assumption
      | with_reducible refine i78_sI ?_ (by decide) (by decide)
      | with_reducible refine i78_sJ ?_
      | with_reducible refine i78_sA ?_ (by decide) (by decide)
      | with_reducible exact jvA_o (by decide)
      | with_reducible refine jvA_13 ?_
      | decide
      | with_reducible exact nz_nle (by assumption)
theorem jv_rj_Model_layStep_145 (hF : jvF F) (T : gSt) (x1 : Int32) (y0 : Int32) (y1 : Int32) (y2 : Int32) (h : I78 T) : jv (rj_Model_layStep_145 F nf T x1 y0 y1 y2) := by
    unfold rj_Model_layStep_145
    repeat' first
      | with_reducible exact jv_none
      | with_reducible refine jv_some ?_
      | with_reducible refine jv_ite (fun _ => ?_) (fun _ => ?_)
      | with_reducible refine jv_gd ?_
      | with_reducible refine jv_stK ?_ (fun _ _ => ?_)
      | with_reducible refine jv_vK (fun _ => ?_)
      | with_reducible refine jv_lK (fun _ => ?_)
      | with_reducible refine jv_bi ?_ (fun _ _ _ _ => ?_)
      | with_reducible refine hF _ _ _ _ ?_ ?_
      | assumption
      | with_reducible refine i78_sI ?_ (by decide) (by decide)
      | with_reducible refine i78_sJ ?_
      | with_reducible refine i78_sA ?_ (by decide) (by decide)
      | with_reducible exact jvA_o (by decide)
      | with_reducible refine jvA_13 ?_
      | decide
      | with_reducible exact nz_nle (by assumption)
theorem jv_rb_Model_layStep (hF : jvF F) (T : gSt) (p1 : Int32) (h : I78 T) : jv (rb_Model_layStep F nf T p1) := by
    unfold rb_Model_layStep
    repeat' first
      | with_reducible exact jv_none
      | with_reducible refine jv_some ?_
      | with_reducible refine jv_ite (fun _ => ?_) (fun _ => ?_)
      | with_reducible refine jv_gd ?_
      | with_reducible refine jv_stK ?_ (fun _ _ => ?_)
      | with_reducible refine jv_vK (fun _ => ?_)
      | with_reducible refine jv_lK (fun _ => ?_)
      | with_reducible refine jv_bi ?_ (fun _ _ _ _ => ?_)
      | with_reducible refine hF _ _ _ _ ?_ ?_
      | with_reducible refine jv_rj_Model_layStep_145 hF  _ _ _ _ _ ?_
      | with_reducible refine jv_rj_Model_layStep_258 hF  _ _ _ _ _ _ ?_
      | with_reducible refine jv_rj_Model_layStep_313 hF  _ _ ?_
      | with_reducible refine jv_rj_Model_layStep_508 hF  _ _ ?_
      | assumption
      | with_reducible refine i78_sI ?_ (by decide) (by decide)
      | with_reducible refine i78_sJ ?_
      | with_reducible refine i78_sA ?_ (by decide) (by decide)
      | with_reducible exact jvA_o (by decide)
      | with_reducible refine jvA_13 ?_
      | decide
      | with_reducible exact nz_nle (by assumption)
theorem jv_rb_Model_layPlace (hF : jvF F) (T : gSt) (p1 : Int32) (h : I78 T) : jv (rb_Model_layPlace F nf T p1) := by
    unfold rb_Model_layPlace
    repeat' first
      | with_reducible exact jv_none
      | with_reducible refine jv_some ?_
      | with_reducible refine jv_ite (fun _ => ?_) (fun _ => ?_)
      | with_reducible refine jv_gd ?_
      | with_reducible refine jv_stK ?_ (fun _ _ => ?_)
      | with_reducible refine jv_vK (fun _ => ?_)
      | with_reducible refine jv_lK (fun _ => ?_)
      | with_reducible refine jv_bi ?_ (fun _ _ _ _ => ?_)
      | with_reducible refine hF _ _ _ _ ?_ ?_
      | assumption
      | with_reducible refine i78_sI ?_ (by decide) (by decide)
      | with_reducible refine i78_sJ ?_
      | with_reducible refine i78_sA ?_ (by decide) (by decide)
      | with_reducible exact jvA_o (by decide)
      | with_reducible refine jvA_13 ?_
      | decide
      | with_reducible exact nz_nle (by assumption)
theorem jv_rb_Model_wordsOf (hF : jvF F) (T : gSt) (p1 : Int32) (h : I78 T) : jv (rb_Model_wordsOf F nf T p1) := by
    unfold rb_Model_wordsOf
    repeat' first
      | with_reducible exact jv_none
      | with_reducible refine jv_some ?_
      | with_reducible refine jv_ite (fun _ => ?_) (fun _ => ?_)
      | with_reducible refine jv_gd ?_
      | with_reducible refine jv_stK ?_ (fun _ _ => ?_)
      | with_reducible refine jv_vK (fun _ => ?_)
      | with_reducible refine jv_lK (fun _ => ?_)
      | with_reducible refine jv_bi ?_ (fun _ _ _ _ => ?_)
      | with_reducible refine hF _ _ _ _ ?_ ?_
      | assumption
      | with_reducible refine i78_sI ?_ (by decide) (by decide)
      | with_reducible refine i78_sJ ?_
      | with_reducible refine i78_sA ?_ (by decide) (by decide)
      | with_reducible exact jvA_o (by decide)
      | with_reducible refine jvA_13 ?_
      | decide
      | with_reducible exact nz_nle (by assumption)
theorem jv_rl_Model_layExpression_54 (hF : jvF F) : ∀ (n : Nat) (T : gSt) (x0 : Int32), I78 T → jv (rl_Model_layExpression_54 F nf n T x0) := by
  intro n
  induction n with
  | zero =>
    intro T x0 h
    rw [rl_Model_layExpression_54]
    exact jv_none
  | succ n ih =>
    intro T x0 h
    rw [rl_Model_layExpression_54]
    repeat' first
      | with_reducible exact jv_none
      | with_reducible refine jv_some ?_
      | with_reducible refine jv_ite (fun _ => ?_) (fun _ => ?_)
      | with_reducible refine jv_gd ?_
      | with_reducible refine jv_stK ?_ (fun _ _ => ?_)
      | with_reducible refine jv_vK (fun _ => ?_)
      | with_reducible refine jv_lK (fun _ => ?_)
      | with_reducible refine jv_bi ?_ (fun _ _ _ _ => ?_)
      | with_reducible refine hF _ _ _ _ ?_ ?_
      | with_reducible refine ih _ _ ?_
      | assumption
      | with_reducible refine i78_sI ?_ (by decide) (by decide)
      | with_reducible refine i78_sJ ?_
      | with_reducible refine i78_sA ?_ (by decide) (by decide)
      | with_reducible exact jvA_o (by decide)
      | with_reducible refine jvA_13 ?_
      | decide
      | with_reducible exact nz_nle (by assumption)
theorem jv_rl_Model_layExpression_7 (hF : jvF F) : ∀ (n : Nat) (T : gSt) (x0 : Int32) (x1 : Int32), I78 T → jv (rl_Model_layExpression_7 F nf n T x0 x1) := by
  intro n
  induction n with
  | zero =>
    intro T x0 x1 h
    rw [rl_Model_layExpression_7]
    exact jv_none
  | succ n ih =>
    intro T x0 x1 h
    rw [rl_Model_layExpression_7]
    repeat' first
      | with_reducible exact jv_none
      | with_reducible refine jv_some ?_
      | with_reducible refine jv_ite (fun _ => ?_) (fun _ => ?_)
      | with_reducible refine jv_gd ?_
      | with_reducible refine jv_stK ?_ (fun _ _ => ?_)
      | with_reducible refine jv_vK (fun _ => ?_)
      | with_reducible refine jv_lK (fun _ => ?_)
      | with_reducible refine jv_bi ?_ (fun _ _ _ _ => ?_)
      | with_reducible refine hF _ _ _ _ ?_ ?_
      | with_reducible refine jv_rl_Model_layExpression_54 hF  _ _ _ ?_
      | with_reducible refine ih _ _ _ ?_
      | assumption
      | with_reducible refine i78_sI ?_ (by decide) (by decide)
      | with_reducible refine i78_sJ ?_
      | with_reducible refine i78_sA ?_ (by decide) (by decide)
      | with_reducible exact jvA_o (by decide)
      | with_reducible refine jvA_13 ?_
      | decide
      | with_reducible exact nz_nle (by assumption)
theorem jv_rb_Model_layExpression (hF : jvF F) (T : gSt) (p1 : Int32) (h : I78 T) : jv (rb_Model_layExpression F nf T p1) := by
    unfold rb_Model_layExpression
    repeat' first
      | with_reducible exact jv_none
      | with_reducible refine jv_some ?_
      | with_reducible refine jv_ite (fun _ => ?_) (fun _ => ?_)
      | with_reducible refine jv_gd ?_
      | with_reducible refine jv_stK ?_ (fun _ _ => ?_)
      | with_reducible refine jv_vK (fun _ => ?_)
      | with_reducible refine jv_lK (fun _ => ?_)
      | with_reducible refine jv_bi ?_ (fun _ _ _ _ => ?_)
      | with_reducible refine hF _ _ _ _ ?_ ?_
      | with_reducible refine jv_rl_Model_layExpression_7 hF  _ _ _ _ ?_
      | assumption
      | with_reducible refine i78_sI ?_ (by decide) (by decide)
      | with_reducible refine i78_sJ ?_
      | with_reducible refine i78_sA ?_ (by decide) (by decide)
      | with_reducible exact jvA_o (by decide)
      | with_reducible refine jvA_13 ?_
      | decide
      | with_reducible exact nz_nle (by assumption)
theorem jv_rb_Model_layBehind (hF : jvF F) (T : gSt) (p1 : Int32) (h : I78 T) : jv (rb_Model_layBehind F nf T p1) := by
    unfold rb_Model_layBehind
    repeat' first
      | with_reducible exact jv_none
      | with_reducible refine jv_some ?_
      | with_reducible refine jv_ite (fun _ => ?_) (fun _ => ?_)
      | with_reducible refine jv_gd ?_
      | with_reducible refine jv_stK ?_ (fun _ _ => ?_)
      | with_reducible refine jv_vK (fun _ => ?_)
      | with_reducible refine jv_lK (fun _ => ?_)
      | with_reducible refine jv_bi ?_ (fun _ _ _ _ => ?_)
      | with_reducible refine hF _ _ _ _ ?_ ?_
      | assumption
      | with_reducible refine i78_sI ?_ (by decide) (by decide)
      | with_reducible refine i78_sJ ?_
      | with_reducible refine i78_sA ?_ (by decide) (by decide)
      | with_reducible exact jvA_o (by decide)
      | with_reducible refine jvA_13 ?_
      | decide
      | with_reducible exact nz_nle (by assumption)
theorem jv_rl_Model_layFirst_192 (hF : jvF F) : ∀ (n : Nat) (T : gSt) (x0 : Int32) (x1 : Int32), I78 T → jv (rl_Model_layFirst_192 F nf n T x0 x1) := by
  intro n
  induction n with
  | zero =>
    intro T x0 x1 h
    rw [rl_Model_layFirst_192]
    exact jv_none
  | succ n ih =>
    intro T x0 x1 h
    rw [rl_Model_layFirst_192]
    repeat' first
      | with_reducible exact jv_none
      | with_reducible refine jv_some ?_
      | with_reducible refine jv_ite (fun _ => ?_) (fun _ => ?_)
      | with_reducible refine jv_gd ?_
      | with_reducible refine jv_stK ?_ (fun _ _ => ?_)
      | with_reducible refine jv_vK (fun _ => ?_)
      | with_reducible refine jv_lK (fun _ => ?_)
      | with_reducible refine jv_bi ?_ (fun _ _ _ _ => ?_)
      | with_reducible refine hF _ _ _ _ ?_ ?_
      | with_reducible refine ih _ _ _ ?_
      | assumption
      | with_reducible refine i78_sI ?_ (by decide) (by decide)
      | with_reducible refine i78_sJ ?_
      | with_reducible refine i78_sA ?_ (by decide) (by decide)
      | with_reducible exact jvA_o (by decide)
      | with_reducible refine jvA_13 ?_
      | decide
      | with_reducible exact nz_nle (by assumption)
theorem jv_rl_Model_layFirst_140 (hF : jvF F) : ∀ (n : Nat) (T : gSt) (x0 : Int32) (x1 : Int32), I78 T → jv (rl_Model_layFirst_140 F nf n T x0 x1) := by
  intro n
  induction n with
  | zero =>
    intro T x0 x1 h
    rw [rl_Model_layFirst_140]
    exact jv_none
  | succ n ih =>
    intro T x0 x1 h
    rw [rl_Model_layFirst_140]
    repeat' first
      | with_reducible exact jv_none
      | with_reducible refine jv_some ?_
      | with_reducible refine jv_ite (fun _ => ?_) (fun _ => ?_)
      | with_reducible refine jv_gd ?_
      | with_reducible refine jv_stK ?_ (fun _ _ => ?_)
      | with_reducible refine jv_vK (fun _ => ?_)
      | with_reducible refine jv_lK (fun _ => ?_)
      | with_reducible refine jv_bi ?_ (fun _ _ _ _ => ?_)
      | with_reducible refine hF _ _ _ _ ?_ ?_
      | with_reducible refine ih _ _ _ ?_
      | assumption
      | with_reducible refine i78_sI ?_ (by decide) (by decide)
      | with_reducible refine i78_sJ ?_
      | with_reducible refine i78_sA ?_ (by decide) (by decide)
      | with_reducible exact jvA_o (by decide)
      | with_reducible refine jvA_13 ?_
      | decide
      | with_reducible exact nz_nle (by assumption)
theorem jv_rb_Model_layFirst (hF : jvF F) (T : gSt) (p1 : Int32) (h : I78 T) : jv (rb_Model_layFirst F nf T p1) := by
    unfold rb_Model_layFirst
    repeat' first
      | with_reducible exact jv_none
      | with_reducible refine jv_some ?_
      | with_reducible refine jv_ite (fun _ => ?_) (fun _ => ?_)
      | with_reducible refine jv_gd ?_
      | with_reducible refine jv_stK ?_ (fun _ _ => ?_)
      | with_reducible refine jv_vK (fun _ => ?_)
      | with_reducible refine jv_lK (fun _ => ?_)
      | with_reducible refine jv_bi ?_ (fun _ _ _ _ => ?_)
      | with_reducible refine hF _ _ _ _ ?_ ?_
      | with_reducible refine jv_rl_Model_layFirst_140 hF  _ _ _ _ ?_
      | with_reducible refine jv_rl_Model_layFirst_192 hF  _ _ _ _ ?_
      | assumption
      | with_reducible refine i78_sI ?_ (by decide) (by decide)
      | with_reducible refine i78_sJ ?_
      | with_reducible refine i78_sA ?_ (by decide) (by decide)
      | with_reducible exact jvA_o (by decide)
      | with_reducible refine jvA_13 ?_
      | decide
      | with_reducible exact nz_nle (by assumption)
theorem jv_rb_Model_push (hF : jvF F) (T : gSt) (p1 : Int32) (p2 : Int32) (p3 : Int32) (h : I78 T) : jv (rb_Model_push F nf T p1 p2 p3) := by
    unfold rb_Model_push
    repeat' first
      | with_reducible exact jv_none
      | with_reducible refine jv_some ?_
      | with_reducible refine jv_ite (fun _ => ?_) (fun _ => ?_)
      | with_reducible refine jv_gd ?_
      | with_reducible refine jv_stK ?_ (fun _ _ => ?_)
      | with_reducible refine jv_vK (fun _ => ?_)
      | with_reducible refine jv_lK (fun _ => ?_)
      | with_reducible refine jv_bi ?_ (fun _ _ _ _ => ?_)
      | with_reducible refine hF _ _ _ _ ?_ ?_
      | assumption
      | with_reducible refine i78_sI ?_ (by decide) (by decide)
      | with_reducible refine i78_sJ ?_
      | with_reducible refine i78_sA ?_ (by decide) (by decide)
      | with_reducible exact jvA_o (by decide)
      | with_reducible refine jvA_13 ?_
      | decide
      | with_reducible exact nz_nle (by assumption)
theorem jv_rb_Model_stopAll (hF : jvF F) (T : gSt) (h : I78 T) : jv (rb_Model_stopAll F nf T) := by
    unfold rb_Model_stopAll
    repeat' first
      | with_reducible exact jv_none
      | with_reducible refine jv_some ?_
      | with_reducible refine jv_ite (fun _ => ?_) (fun _ => ?_)
      | with_reducible refine jv_gd ?_
      | with_reducible refine jv_stK ?_ (fun _ _ => ?_)
      | with_reducible refine jv_vK (fun _ => ?_)
      | with_reducible refine jv_lK (fun _ => ?_)
      | with_reducible refine jv_bi ?_ (fun _ _ _ _ => ?_)
      | with_reducible refine hF _ _ _ _ ?_ ?_
      | assumption
      | with_reducible refine i78_sI ?_ (by decide) (by decide)
      | with_reducible refine i78_sJ ?_
      | with_reducible refine i78_sA ?_ (by decide) (by decide)
      | with_reducible exact jvA_o (by decide)
      | with_reducible refine jvA_13 ?_
      | decide
      | with_reducible exact nz_nle (by assumption)
theorem jv_rb_Model_begin (hF : jvF F) (T : gSt) (p1 : Int32) (h : I78 T) : jv (rb_Model_begin F nf T p1) := by
    unfold rb_Model_begin
    repeat' first
      | with_reducible exact jv_none
      | with_reducible refine jv_some ?_
      | with_reducible refine jv_ite (fun _ => ?_) (fun _ => ?_)
      | with_reducible refine jv_gd ?_
      | with_reducible refine jv_stK ?_ (fun _ _ => ?_)
      | with_reducible refine jv_vK (fun _ => ?_)
      | with_reducible refine jv_lK (fun _ => ?_)
      | with_reducible refine jv_bi ?_ (fun _ _ _ _ => ?_)
      | with_reducible refine hF _ _ _ _ ?_ ?_
      | assumption
      | with_reducible refine i78_sI ?_ (by decide) (by decide)
      | with_reducible refine i78_sJ ?_
      | with_reducible refine i78_sA ?_ (by decide) (by decide)
      | with_reducible exact jvA_o (by decide)
      | with_reducible refine jvA_13 ?_
      | decide
      | with_reducible exact nz_nle (by assumption)
theorem jv_rl_Model_shrink_109 (hF : jvF F) {rec_0 : gSt → Int32 → gR} {rec_38 : gSt → Int32 → Int32 → gR} (hrec_0 : ∀ T a0, I78 T → jv (rec_0 T a0)) (hrec_38 : ∀ T a0 a1, I78 T → jv (rec_38 T a0 a1)) : ∀ (n : Nat) (T : gSt) (x0 : Int32) (x1 : Int32) (x2 : Int32), I78 T → jv (rl_Model_shrink_109 F nf rec_0 rec_38 n T x0 x1 x2) := by
  intro n
  induction n with
  | zero =>
    intro T x0 x1 x2 h
    rw [rl_Model_shrink_109]
    exact jv_none
  | succ n ih =>
    intro T x0 x1 x2 h
    rw [rl_Model_shrink_109]
    repeat' first
      | with_reducible exact jv_none
      | with_reducible refine jv_some ?_
      | with_reducible refine jv_ite (fun _ => ?_) (fun _ => ?_)
      | with_reducible refine jv_gd ?_
      | with_reducible refine jv_stK ?_ (fun _ _ => ?_)
      | with_reducible refine jv_vK (fun _ => ?_)
      | with_reducible refine jv_lK (fun _ => ?_)
      | with_reducible refine jv_bi ?_ (fun _ _ _ _ => ?_)
      | with_reducible refine hF _ _ _ _ ?_ ?_
      | with_reducible refine ih _ _ _ _ ?_
      | with_reducible refine hrec_0 _ _ ?_
      | with_reducible refine hrec_38 _ _ _ ?_
      | assumption
      | with_reducible refine i78_sI ?_ (by decide) (by decide)
      | with_reducible refine i78_sJ ?_
      | with_reducible refine i78_sA ?_ (by decide) (by decide)
      | with_reducible exact jvA_o (by decide)
      | with_reducible refine jvA_13 ?_
      | decide
      | with_reducible exact nz_nle (by assumption)
theorem jv_rl_Model_shrink_38 (hF : jvF F) {rec_0 : gSt → Int32 → gR} (hrec_0 : ∀ T a0, I78 T → jv (rec_0 T a0)) : ∀ (n : Nat) (T : gSt) (x0 : Int32) (x1 : Int32), I78 T → jv (rl_Model_shrink_38 F nf rec_0 n T x0 x1) := by
  intro n
  induction n with
  | zero =>
    intro T x0 x1 h
    rw [rl_Model_shrink_38]
    exact jv_none
  | succ n ih =>
    intro T x0 x1 h
    rw [rl_Model_shrink_38]
    repeat' first
      | with_reducible exact jv_none
      | with_reducible refine jv_some ?_
      | with_reducible refine jv_ite (fun _ => ?_) (fun _ => ?_)
      | with_reducible refine jv_gd ?_
      | with_reducible refine jv_stK ?_ (fun _ _ => ?_)
      | with_reducible refine jv_vK (fun _ => ?_)
      | with_reducible refine jv_lK (fun _ => ?_)
      | with_reducible refine jv_bi ?_ (fun _ _ _ _ => ?_)
      | with_reducible refine hF _ _ _ _ ?_ ?_
      | with_reducible refine jv_rl_Model_shrink_109 hF ?_ ?_ _ _ _ _ _ ?_
      | with_reducible refine ih _ _ _ ?_
      | with_reducible refine hrec_0 _ _ ?_
      | assumption
      | with_reducible refine i78_sI ?_ (by decide) (by decide)
      | with_reducible refine i78_sJ ?_
      | with_reducible refine i78_sA ?_ (by decide) (by decide)
      | with_reducible exact jvA_o (by decide)
      | with_reducible refine jvA_13 ?_
      | decide
      | with_reducible exact nz_nle (by assumption)
theorem jv_rl_Model_shrink_0 (hF : jvF F) : ∀ (n : Nat) (T : gSt) (x0 : Int32), I78 T → jv (rl_Model_shrink_0 F nf n T x0) := by
  intro n
  induction n with
  | zero =>
    intro T x0 h
    rw [rl_Model_shrink_0]
    exact jv_none
  | succ n ih =>
    intro T x0 h
    rw [rl_Model_shrink_0]
    repeat' first
      | with_reducible exact jv_none
      | with_reducible refine jv_some ?_
      | with_reducible refine jv_ite (fun _ => ?_) (fun _ => ?_)
      | with_reducible refine jv_gd ?_
      | with_reducible refine jv_stK ?_ (fun _ _ => ?_)
      | with_reducible refine jv_vK (fun _ => ?_)
      | with_reducible refine jv_lK (fun _ => ?_)
      | with_reducible refine jv_bi ?_ (fun _ _ _ _ => ?_)
      | with_reducible refine hF _ _ _ _ ?_ ?_
      | with_reducible refine jv_rl_Model_shrink_38 hF ?_ _ _ _ _ ?_
      | with_reducible refine ih _ _ ?_
      | assumption
      | with_reducible refine i78_sI ?_ (by decide) (by decide)
      | with_reducible refine i78_sJ ?_
      | with_reducible refine i78_sA ?_ (by decide) (by decide)
      | with_reducible exact jvA_o (by decide)
      | with_reducible refine jvA_13 ?_
      | decide
      | with_reducible exact nz_nle (by assumption)
theorem jv_rb_Model_shrink (hF : jvF F) (T : gSt) (p1 : Int32) (h : I78 T) : jv (rb_Model_shrink F nf T p1) := by
    unfold rb_Model_shrink
    repeat' first
      | with_reducible exact jv_none
      | with_reducible refine jv_some ?_
      | with_reducible refine jv_ite (fun _ => ?_) (fun _ => ?_)
      | with_reducible refine jv_gd ?_
      | with_reducible refine jv_stK ?_ (fun _ _ => ?_)
      | with_reducible refine jv_vK (fun _ => ?_)
      | with_reducible refine jv_lK (fun _ => ?_)
      | with_reducible refine jv_bi ?_ (fun _ _ _ _ => ?_)
      | with_reducible refine hF _ _ _ _ ?_ ?_
      | with_reducible refine jv_rl_Model_shrink_0 hF  _ _ _ ?_
      | assumption
      | with_reducible refine i78_sI ?_ (by decide) (by decide)
      | with_reducible refine i78_sJ ?_
      | with_reducible refine i78_sA ?_ (by decide) (by decide)
      | with_reducible exact jvA_o (by decide)
      | with_reducible refine jvA_13 ?_
      | decide
      | with_reducible exact nz_nle (by assumption)
theorem jv_rl_Model_make_235 (hF : jvF F) : ∀ (n : Nat) (T : gSt) (x0 : Int32) (x1 : Int32) (x2 : Int32), I78 T → jv (rl_Model_make_235 F nf n T x0 x1 x2) := by
  intro n
  induction n with
  | zero =>
    intro T x0 x1 x2 h
    rw [rl_Model_make_235]
    exact jv_none
  | succ n ih =>
    intro T x0 x1 x2 h
    rw [rl_Model_make_235]
    repeat' first
      | with_reducible exact jv_none
      | with_reducible refine jv_some ?_
      | with_reducible refine jv_ite (fun _ => ?_) (fun _ => ?_)
      | with_reducible refine jv_gd ?_
      | with_reducible refine jv_stK ?_ (fun _ _ => ?_)
      | with_reducible refine jv_vK (fun _ => ?_)
      | with_reducible refine jv_lK (fun _ => ?_)
      | with_reducible refine jv_bi ?_ (fun _ _ _ _ => ?_)
      | with_reducible refine hF _ _ _ _ ?_ ?_
      | with_reducible refine ih _ _ _ _ ?_
      | assumption
      | with_reducible refine i78_sI ?_ (by decide) (by decide)
      | with_reducible refine i78_sJ ?_
      | with_reducible refine i78_sA ?_ (by decide) (by decide)
      | with_reducible exact jvA_o (by decide)
      | with_reducible refine jvA_13 ?_
      | decide
      | with_reducible exact nz_nle (by assumption)
theorem jv_rl_Model_make_162 (hF : jvF F) : ∀ (n : Nat) (T : gSt) (x0 : Int32) (x1 : Int32) (x2 : Int32), I78 T → jv (rl_Model_make_162 F nf n T x0 x1 x2) := by
  intro n
  induction n with
  | zero =>
    intro T x0 x1 x2 h
    rw [rl_Model_make_162]
    exact jv_none
  | succ n ih =>
    intro T x0 x1 x2 h
    rw [rl_Model_make_162]
    repeat' first
      | with_reducible exact jv_none
      | with_reducible refine jv_some ?_
      | with_reducible refine jv_ite (fun _ => ?_) (fun _ => ?_)
      | with_reducible refine jv_gd ?_
      | with_reducible refine jv_stK ?_ (fun _ _ => ?_)
      | with_reducible refine jv_vK (fun _ => ?_)
      | with_reducible refine jv_lK (fun _ => ?_)
      | with_reducible refine jv_bi ?_ (fun _ _ _ _ => ?_)
      | with_reducible refine hF _ _ _ _ ?_ ?_
      | with_reducible refine jv_rl_Model_make_235 hF  _ _ _ _ _ ?_
      | with_reducible refine ih _ _ _ _ ?_
      | assumption
      | with_reducible refine i78_sI ?_ (by decide) (by decide)
      | with_reducible refine i78_sJ ?_
      | with_reducible refine i78_sA ?_ (by decide) (by decide)
      | with_reducible exact jvA_o (by decide)
      | with_reducible refine jvA_13 ?_
      | decide
      | with_reducible exact nz_nle (by assumption)
theorem jv_rj_Model_make_109 (hF : jvF F) (T : gSt) (x1 : Int32) (x4 : Int32) (x5 : Int32) (h : I78 T) : jv (rj_Model_make_109 F nf T x1 x4 x5) := by
    unfold rj_Model_make_109
    repeat' first
      | with_reducible exact jv_none
      | with_reducible refine jv_some ?_
      | with_reducible refine jv_ite (fun _ => ?_) (fun _ => ?_)
      | with_reducible refine jv_gd ?_
      | with_reducible refine jv_stK ?_ (fun _ _ => ?_)
      | with_reducible refine jv_vK (fun _ => ?_)
      | with_reducible refine jv_lK (fun _ => ?_)
      | with_reducible refine jv_bi ?_ (fun _ _ _ _ => ?_)
      | with_reducible refine hF _ _ _ _ ?_ ?_
      | with_reducible refine jv_rl_Model_make_162 hF  _ _ _ _ _ ?_
      | assumption
      | with_reducible refine i78_sI ?_ (by decide) (by decide)
      | with_reducible refine i78_sJ ?_
      | with_reducible refine i78_sA ?_ (by decide) (by decide)
      | with_reducible exact jvA_o (by decide)
      | with_reducible refine jvA_13 ?_
      | decide
      | with_reducible exact nz_nle (by assumption)
theorem jv_rj_Model_make_77 (hF : jvF F) (T : gSt) (x1 : Int32) (x4 : Int32) (x5 : Int32) (x6 : Int32) (h : I78 T) : jv (rj_Model_make_77 F nf T x1 x4 x5 x6) := by
    unfold rj_Model_make_77
    repeat' first
      | with_reducible exact jv_none
      | with_reducible refine jv_some ?_
      | with_reducible refine jv_ite (fun _ => ?_) (fun _ => ?_)
      | with_reducible refine jv_gd ?_
      | with_reducible refine jv_stK ?_ (fun _ _ => ?_)
      | with_reducible refine jv_vK (fun _ => ?_)
      | with_reducible refine jv_lK (fun _ => ?_)
      | with_reducible refine jv_bi ?_ (fun _ _ _ _ => ?_)
      | with_reducible refine hF _ _ _ _ ?_ ?_
      | with_reducible refine jv_rj_Model_make_109 hF  _ _ _ _ ?_
      | assumption
      | with_reducible refine i78_sI ?_ (by decide) (by decide)
      | with_reducible refine i78_sJ ?_
      | with_reducible refine i78_sA ?_ (by decide) (by decide)
      | with_reducible exact jvA_o (by decide)
      | with_reducible refine jvA_13 ?_
      | decide
      | with_reducible exact nz_nle (by assumption)
theorem jv_rj_Model_make_51 (hF : jvF F) (T : gSt) (x1 : Int32) (x4 : Int32) (x5 : Int32) (h : I78 T) : jv (rj_Model_make_51 F nf T x1 x4 x5) := by
    unfold rj_Model_make_51
    repeat' first
      | with_reducible exact jv_none
      | with_reducible refine jv_some ?_
      | with_reducible refine jv_ite (fun _ => ?_) (fun _ => ?_)
      | with_reducible refine jv_gd ?_
      | with_reducible refine jv_stK ?_ (fun _ _ => ?_)
      | with_reducible refine jv_vK (fun _ => ?_)
      | with_reducible refine jv_lK (fun _ => ?_)
      | with_reducible refine jv_bi ?_ (fun _ _ _ _ => ?_)
      | with_reducible refine hF _ _ _ _ ?_ ?_
      | with_reducible refine jv_rj_Model_make_77 hF  _ _ _ _ _ ?_
      | assumption
      | with_reducible refine i78_sI ?_ (by decide) (by decide)
      | with_reducible refine i78_sJ ?_
      | with_reducible refine i78_sA ?_ (by decide) (by decide)
      | with_reducible exact jvA_o (by decide)
      | with_reducible refine jvA_13 ?_
      | decide
      | with_reducible exact nz_nle (by assumption)
theorem jv_rb_Model_make (hF : jvF F) (T : gSt) (p1 : Int32) (p2 : Int64) (p3 : Int32) (h : I78 T) : jv (rb_Model_make F nf T p1 p2 p3) := by
    unfold rb_Model_make
    repeat' first
      | with_reducible exact jv_none
      | with_reducible refine jv_some ?_
      | with_reducible refine jv_ite (fun _ => ?_) (fun _ => ?_)
      | with_reducible refine jv_gd ?_
      | with_reducible refine jv_stK ?_ (fun _ _ => ?_)
      | with_reducible refine jv_vK (fun _ => ?_)
      | with_reducible refine jv_lK (fun _ => ?_)
      | with_reducible refine jv_bi ?_ (fun _ _ _ _ => ?_)
      | with_reducible refine hF _ _ _ _ ?_ ?_
      | with_reducible refine jv_rj_Model_make_51 hF  _ _ _ _ ?_
      | with_reducible refine jv_rj_Model_make_77 hF  _ _ _ _ _ ?_
      | assumption
      | with_reducible refine i78_sI ?_ (by decide) (by decide)
      | with_reducible refine i78_sJ ?_
      | with_reducible refine i78_sA ?_ (by decide) (by decide)
      | with_reducible exact jvA_o (by decide)
      | with_reducible refine jvA_13 ?_
      | decide
      | with_reducible exact nz_nle (by assumption)
theorem jv_rl_Model_placeOf_51 (hF : jvF F) : ∀ (n : Nat) (T : gSt) (x0 : Int32) (x1 : Int32) (x2 : Int32), I78 T → jv (rl_Model_placeOf_51 F nf n T x0 x1 x2) := by
  intro n
  induction n with
  | zero =>
    intro T x0 x1 x2 h
    rw [rl_Model_placeOf_51]
    exact jv_none
  | succ n ih =>
    intro T x0 x1 x2 h
    rw [rl_Model_placeOf_51]
    repeat' first
      | with_reducible exact jv_none
      | with_reducible refine jv_some ?_
      | with_reducible refine jv_ite (fun _ => ?_) (fun _ => ?_)
      | with_reducible refine jv_gd ?_
      | with_reducible refine jv_stK ?_ (fun _ _ => ?_)
      | with_reducible refine jv_vK (fun _ => ?_)
      | with_reducible refine jv_lK (fun _ => ?_)
      | with_reducible refine jv_bi ?_ (fun _ _ _ _ => ?_)
      | with_reducible refine hF _ _ _ _ ?_ ?_
      | with_reducible refine ih _ _ _ _ ?_
      | assumption
      | with_reducible refine i78_sI ?_ (by decide) (by decide)
      | with_reducible refine i78_sJ ?_
      | with_reducible refine i78_sA ?_ (by decide) (by decide)
      | with_reducible exact jvA_o (by decide)
      | with_reducible refine jvA_13 ?_
      | decide
      | with_reducible exact nz_nle (by assumption)
theorem jv_rb_Model_placeOf (hF : jvF F) (T : gSt) (p1 : Int32) (p2 : Int32) (p3 : Int32) (h : I78 T) : jv (rb_Model_placeOf F nf T p1 p2 p3) := by
    unfold rb_Model_placeOf
    repeat' first
      | with_reducible exact jv_none
      | with_reducible refine jv_some ?_
      | with_reducible refine jv_ite (fun _ => ?_) (fun _ => ?_)
      | with_reducible refine jv_gd ?_
      | with_reducible refine jv_stK ?_ (fun _ _ => ?_)
      | with_reducible refine jv_vK (fun _ => ?_)
      | with_reducible refine jv_lK (fun _ => ?_)
      | with_reducible refine jv_bi ?_ (fun _ _ _ _ => ?_)
      | with_reducible refine hF _ _ _ _ ?_ ?_
      | with_reducible refine jv_rl_Model_placeOf_51 hF  _ _ _ _ _ ?_
      | assumption
      | with_reducible refine i78_sI ?_ (by decide) (by decide)
      | with_reducible refine i78_sJ ?_
      | with_reducible refine i78_sA ?_ (by decide) (by decide)
      | with_reducible exact jvA_o (by decide)
      | with_reducible refine jvA_13 ?_
      | decide
      | with_reducible exact nz_nle (by assumption)
theorem jv_rj_Model_pushPlace_83 (hF : jvF F) (T : gSt) (x4 : Int32) (y0 : Int32) (y1 : Int32) (y2 : Int32) (h : I78 T) : jv (rj_Model_pushPlace_83 F nf T x4 y0 y1 y2) := by
    unfold rj_Model_pushPlace_83
    repeat' first
      | with_reducible exact jv_none
      | with_reducible refine jv_some ?_
      | with_reducible refine jv_ite (fun _ => ?_) (fun _ => ?_)
      | with_reducible refine jv_gd ?_
      | with_reducible refine jv_stK ?_ (fun _ _ => ?_)
      | with_reducible refine jv_vK (fun _ => ?_)
      | with_reducible refine jv_lK (fun _ => ?_)
      | with_reducible refine jv_bi ?_ (fun _ _ _ _ => ?_)
      | with_reducible refine hF _ _ _ _ ?_ ?_
      | assumption
      | with_reducible refine i78_sI ?_ (by decide) (by decide)
      | with_reducible refine i78_sJ ?_
      | with_reducible refine i78_sA ?_ (by decide) (by decide)
      | with_reducible exact jvA_o (by decide)
      | with_reducible refine jvA_13 ?_
      | decide
      | with_reducible exact nz_nle (by assumption)
theorem jv_rj_Model_pushPlace_51 (hF : jvF F) (T : gSt) (x4 : Int32) (y0 : Int32) (h : I78 T) : jv (rj_Model_pushPlace_51 F nf T x4 y0) := by
    unfold rj_Model_pushPlace_51
    repeat' first
      | with_reducible exact jv_none
      | with_reducible refine jv_some ?_
      | with_reducible refine jv_ite (fun _ => ?_) (fun _ => ?_)
      | with_reducible refine jv_gd ?_
      | with_reducible refine jv_stK ?_ (fun _ _ => ?_)
      | with_reducible refine jv_vK (fun _ => ?_)
      | with_reducible refine jv_lK (fun _ => ?_)
      | with_reducible refine jv_bi ?_ (fun _ _ _ _ => ?_)
      | with_reducible refine hF _ _ _ _ ?_ ?_
      | with_reducible refine jv_rj_Model_pushPlace_83 hF  _ _ _ _ _ ?_
      | assumption
      | with_reducible refine i78_sI ?_ (by decide) (by decide)
      | with_reducible refine i78_sJ ?_
      | with_reducible refine i78_sA ?_ (by decide) (by decide)
      | with_reducible exact jvA_o (by decide)
      | with_reducible refine jvA_13 ?_
      | decide
      | with_reducible exact nz_nle (by assumption)
theorem jv_rj_Model_pushPlace_34 (hF : jvF F) (T : gSt) (x4 : Int32) (h : I78 T) : jv (rj_Model_pushPlace_34 F nf T x4) := by
    unfold rj_Model_pushPlace_34
    repeat' first
      | with_reducible exact jv_none
      | with_reducible refine jv_some ?_
      | with_reducible refine jv_ite (fun _ => ?_) (fun _ => ?_)
      | with_reducible refine jv_gd ?_
      | with_reducible refine jv_stK ?_ (fun _ _ => ?_)
      | with_reducible refine jv_vK (fun _ => ?_)
      | with_reducible refine jv_lK (fun _ => ?_)
      | with_reducible refine jv_bi ?_ (fun _ _ _ _ => ?_)
      | with_reducible refine hF _ _ _ _ ?_ ?_
      | with_reducible refine jv_rj_Model_pushPlace_51 hF  _ _ _ ?_
      | assumption
      | with_reducible refine i78_sI ?_ (by decide) (by decide)
      | with_reducible refine i78_sJ ?_
      | with_reducible refine i78_sA ?_ (by decide) (by decide)
      | with_reducible exact jvA_o (by decide)
      | with_reducible refine jvA_13 ?_
      | decide
      | with_reducible exact nz_nle (by assumption)
theorem jv_rb_Model_pushPlace (hF : jvF F) (T : gSt) (p1 : Int32) (p2 : Int32) (p3 : Int32) (h : I78 T) : jv (rb_Model_pushPlace F nf T p1 p2 p3) := by
    unfold rb_Model_pushPlace
    repeat' first
      | with_reducible exact jv_none
      | with_reducible refine jv_some ?_
      | with_reducible refine jv_ite (fun _ => ?_) (fun _ => ?_)
      | with_reducible refine jv_gd ?_
      | with_reducible refine jv_stK ?_ (fun _ _ => ?_)
      | with_reducible refine jv_vK (fun _ => ?_)
      | with_reducible refine jv_lK (fun _ => ?_)
      | with_reducible refine jv_bi ?_ (fun _ _ _ _ => ?_)
      | with_reducible refine hF _ _ _ _ ?_ ?_
      | with_reducible refine jv_rj_Model_pushPlace_34 hF  _ _ ?_
      | assumption
      | with_reducible refine i78_sI ?_ (by decide) (by decide)
      | with_reducible refine i78_sJ ?_
      | with_reducible refine i78_sA ?_ (by decide) (by decide)
      | with_reducible exact jvA_o (by decide)
      | with_reducible refine jvA_13 ?_
      | decide
      | with_reducible exact nz_nle (by assumption)
theorem jv_rb_Model_put (hF : jvF F) (T : gSt) (p1 : Int32) (p2 : Int32) (p3 : Int32) (p4 : Int32) (h : I78 T) : jv (rb_Model_put F nf T p1 p2 p3 p4) := by
    unfold rb_Model_put
    repeat' first
      | with_reducible exact jv_none
      | with_reducible refine jv_some ?_
      | with_reducible refine jv_ite (fun _ => ?_) (fun _ => ?_)
      | with_reducible refine jv_gd ?_
      | with_reducible refine jv_stK ?_ (fun _ _ => ?_)
      | with_reducible refine jv_vK (fun _ => ?_)
      | with_reducible refine jv_lK (fun _ => ?_)
      | with_reducible refine jv_bi ?_ (fun _ _ _ _ => ?_)
      | with_reducible refine hF _ _ _ _ ?_ ?_
      | assumption
      | with_reducible refine i78_sI ?_ (by decide) (by decide)
      | with_reducible refine i78_sJ ?_
      | with_reducible refine i78_sA ?_ (by decide) (by decide)
      | with_reducible exact jvA_o (by decide)
      | with_reducible refine jvA_13 ?_
      | decide
      | with_reducible exact nz_nle (by assumption)
theorem jv_rb_Model_raise (hF : jvF F) (T : gSt) (p1 : Int32) (h : I78 T) : jv (rb_Model_raise F nf T p1) := by
    unfold rb_Model_raise
    repeat' first
      | with_reducible exact jv_none
      | with_reducible refine jv_some ?_
      | with_reducible refine jv_ite (fun _ => ?_) (fun _ => ?_)
      | with_reducible refine jv_gd ?_
      | with_reducible refine jv_stK ?_ (fun _ _ => ?_)
      | with_reducible refine jv_vK (fun _ => ?_)
      | with_reducible refine jv_lK (fun _ => ?_)
      | with_reducible refine jv_bi ?_ (fun _ _ _ _ => ?_)
      | with_reducible refine hF _ _ _ _ ?_ ?_
      | assumption
      | with_reducible refine i78_sI ?_ (by decide) (by decide)
      | with_reducible refine i78_sJ ?_
      | with_reducible refine i78_sA ?_ (by decide) (by decide)
      | with_reducible exact jvA_o (by decide)
      | with_reducible refine jvA_13 ?_
      | decide
      | with_reducible exact nz_nle (by assumption)
theorem jv_rb_Model_var (hF : jvF F) (T : gSt) (p1 : Int32) (h : I78 T) : jv (rb_Model_var F nf T p1) := by
    unfold rb_Model_var
    repeat' first
      | with_reducible exact jv_none
      | with_reducible refine jv_some ?_
      | with_reducible refine jv_ite (fun _ => ?_) (fun _ => ?_)
      | with_reducible refine jv_gd ?_
      | with_reducible refine jv_stK ?_ (fun _ _ => ?_)
      | with_reducible refine jv_vK (fun _ => ?_)
      | with_reducible refine jv_lK (fun _ => ?_)
      | with_reducible refine jv_bi ?_ (fun _ _ _ _ => ?_)
      | with_reducible refine hF _ _ _ _ ?_ ?_
      | assumption
      | with_reducible refine i78_sI ?_ (by decide) (by decide)
      | with_reducible refine i78_sJ ?_
      | with_reducible refine i78_sA ?_ (by decide) (by decide)
      | with_reducible exact jvA_o (by decide)
      | with_reducible refine jvA_13 ?_
      | decide
      | with_reducible exact nz_nle (by assumption)
theorem jv_rb_Model_regionIndex (hF : jvF F) (T : gSt) (p1 : Int32) (h : I78 T) : jv (rb_Model_regionIndex F nf T p1) := by
    unfold rb_Model_regionIndex
    repeat' first
      | with_reducible exact jv_none
      | with_reducible refine jv_some ?_
      | with_reducible refine jv_ite (fun _ => ?_) (fun _ => ?_)
      | with_reducible refine jv_gd ?_
      | with_reducible refine jv_stK ?_ (fun _ _ => ?_)
      | with_reducible refine jv_vK (fun _ => ?_)
      | with_reducible refine jv_lK (fun _ => ?_)
      | with_reducible refine jv_bi ?_ (fun _ _ _ _ => ?_)
      | with_reducible refine hF _ _ _ _ ?_ ?_
      | assumption
      | with_reducible refine i78_sI ?_ (by decide) (by decide)
      | with_reducible refine i78_sJ ?_
      | with_reducible refine i78_sA ?_ (by decide) (by decide)
      | with_reducible exact jvA_o (by decide)
      | with_reducible refine jvA_13 ?_
      | decide
      | with_reducible exact nz_nle (by assumption)
theorem jv_rl_Model_goOn_0 (hF : jvF F) : ∀ (n : Nat) (T : gSt), I78 T → jv (rl_Model_goOn_0 F nf n T ) := by
  intro n
  induction n with
  | zero =>
    intro T  h
    rw [rl_Model_goOn_0]
    exact jv_none
  | succ n ih =>
    intro T  h
    rw [rl_Model_goOn_0]
    repeat' first
      | with_reducible exact jv_none
      | with_reducible refine jv_some ?_
      | with_reducible refine jv_ite (fun _ => ?_) (fun _ => ?_)
      | with_reducible refine jv_gd ?_
      | with_reducible refine jv_stK ?_ (fun _ _ => ?_)
      | with_reducible refine jv_vK (fun _ => ?_)
      | with_reducible refine jv_lK (fun _ => ?_)
      | with_reducible refine jv_bi ?_ (fun _ _ _ _ => ?_)
      | with_reducible refine hF _ _ _ _ ?_ ?_
      | with_reducible refine ih _  ?_
      | assumption
      | with_reducible refine i78_sI ?_ (by decide) (by decide)
      | with_reducible refine i78_sJ ?_
      | with_reducible refine i78_sA ?_ (by decide) (by decide)
      | with_reducible exact jvA_o (by decide)
      | with_reducible refine jvA_13 ?_
      | decide
      | with_reducible exact nz_nle (by assumption)
theorem jv_rb_Model_goOn (hF : jvF F) (T : gSt) (h : I78 T) : jv (rb_Model_goOn F nf T) := by
    unfold rb_Model_goOn
    repeat' first
      | with_reducible exact jv_none
      | with_reducible refine jv_some ?_
      | with_reducible refine jv_ite (fun _ => ?_) (fun _ => ?_)
      | with_reducible refine jv_gd ?_
      | with_reducible refine jv_stK ?_ (fun _ _ => ?_)
      | with_reducible refine jv_vK (fun _ => ?_)
      | with_reducible refine jv_lK (fun _ => ?_)
      | with_reducible refine jv_bi ?_ (fun _ _ _ _ => ?_)
      | with_reducible refine hF _ _ _ _ ?_ ?_
      | with_reducible refine jv_rl_Model_goOn_0 hF  _ _  ?_
      | assumption
      | with_reducible refine i78_sI ?_ (by decide) (by decide)
      | with_reducible refine i78_sJ ?_
      | with_reducible refine i78_sA ?_ (by decide) (by decide)
      | with_reducible exact jvA_o (by decide)
      | with_reducible refine jvA_13 ?_
      | decide
      | with_reducible exact nz_nle (by assumption)
theorem jv_rj_Model_run_IIII_537 (hF : jvF F) (T : gSt) (x2 : Int32) (h : I78 T) : jv (rj_Model_run_IIII_537 F nf T x2) := by
    unfold rj_Model_run_IIII_537
    repeat' first
      | with_reducible exact jv_none
      | with_reducible refine jv_some ?_
      | with_reducible refine jv_ite (fun _ => ?_) (fun _ => ?_)
      | with_reducible refine jv_gd ?_
      | with_reducible refine jv_stK ?_ (fun _ _ => ?_)
      | with_reducible refine jv_vK (fun _ => ?_)
      | with_reducible refine jv_lK (fun _ => ?_)
      | with_reducible refine jv_bi ?_ (fun _ _ _ _ => ?_)
      | with_reducible refine hF _ _ _ _ ?_ ?_
      | assumption
      | with_reducible refine i78_sI ?_ (by decide) (by decide)
      | with_reducible refine i78_sJ ?_
      | with_reducible refine i78_sA ?_ (by decide) (by decide)
      | with_reducible exact jvA_o (by decide)
      | with_reducible refine jvA_13 ?_
      | decide
      | with_reducible exact nz_nle (by assumption)
theorem jv_rb_Model_run_IIII (hF : jvF F) (T : gSt) (p1 : Int32) (p2 : Int32) (p3 : Int32) (p4 : Int32) (h : I78 T) : jv (rb_Model_run_IIII F nf T p1 p2 p3 p4) := by
    unfold rb_Model_run_IIII
    repeat' first
      | with_reducible exact jv_none
      | with_reducible refine jv_some ?_
      | with_reducible refine jv_ite (fun _ => ?_) (fun _ => ?_)
      | with_reducible refine jv_gd ?_
      | with_reducible refine jv_stK ?_ (fun _ _ => ?_)
      | with_reducible refine jv_vK (fun _ => ?_)
      | with_reducible refine jv_lK (fun _ => ?_)
      | with_reducible refine jv_bi ?_ (fun _ _ _ _ => ?_)
      | with_reducible refine hF _ _ _ _ ?_ ?_
      | with_reducible refine jv_rj_Model_run_IIII_537 hF  _ _ ?_
      | assumption
      | with_reducible refine i78_sI ?_ (by decide) (by decide)
      | with_reducible refine i78_sJ ?_
      | with_reducible refine i78_sA ?_ (by decide) (by decide)
      | with_reducible exact jvA_o (by decide)
      | with_reducible refine jvA_13 ?_
      | decide
      | with_reducible exact nz_nle (by assumption)
theorem jv_rl_Model_input__28 (hF : jvF F) : ∀ (n : Nat) (T : gSt) (x0 : Int32) (x1 : Int32), I78 T → jv (rl_Model_input__28 F nf n T x0 x1) := by
  intro n
  induction n with
  | zero =>
    intro T x0 x1 h
    rw [rl_Model_input__28]
    exact jv_none
  | succ n ih =>
    intro T x0 x1 h
    rw [rl_Model_input__28]
    repeat' first
      | with_reducible exact jv_none
      | with_reducible refine jv_some ?_
      | with_reducible refine jv_ite (fun _ => ?_) (fun _ => ?_)
      | with_reducible refine jv_gd ?_
      | with_reducible refine jv_stK ?_ (fun _ _ => ?_)
      | with_reducible refine jv_vK (fun _ => ?_)
      | with_reducible refine jv_lK (fun _ => ?_)
      | with_reducible refine jv_bi ?_ (fun _ _ _ _ => ?_)
      | with_reducible refine hF _ _ _ _ ?_ ?_
      | with_reducible refine ih _ _ _ ?_
      | assumption
      | with_reducible refine i78_sI ?_ (by decide) (by decide)
      | with_reducible refine i78_sJ ?_
      | with_reducible refine i78_sA ?_ (by decide) (by decide)
      | with_reducible exact jvA_o (by decide)
      | with_reducible refine jvA_13 ?_
      | decide
      | with_reducible exact nz_nle (by assumption)
theorem jv_rb_Model_input_ (hF : jvF F) (T : gSt) (h : I78 T) : jv (rb_Model_input_ F nf T) := by
    unfold rb_Model_input_
    repeat' first
      | with_reducible exact jv_none
      | with_reducible refine jv_some ?_
      | with_reducible refine jv_ite (fun _ => ?_) (fun _ => ?_)
      | with_reducible refine jv_gd ?_
      | with_reducible refine jv_stK ?_ (fun _ _ => ?_)
      | with_reducible refine jv_vK (fun _ => ?_)
      | with_reducible refine jv_lK (fun _ => ?_)
      | with_reducible refine jv_bi ?_ (fun _ _ _ _ => ?_)
      | with_reducible refine hF _ _ _ _ ?_ ?_
      | with_reducible refine jv_rl_Model_input__28 hF  _ _ _ _ ?_
      | assumption
      | with_reducible refine i78_sI ?_ (by decide) (by decide)
      | with_reducible refine i78_sJ ?_
      | with_reducible refine i78_sA ?_ (by decide) (by decide)
      | with_reducible exact jvA_o (by decide)
      | with_reducible refine jvA_13 ?_
      | decide
      | with_reducible exact nz_nle (by assumption)
theorem jv_rl_Model_invoke_89 (hF : jvF F) : ∀ (n : Nat) (T : gSt) (x0 : Int32) (x1 : Int32) (x2 : Int32), I78 T → jv (rl_Model_invoke_89 F nf n T x0 x1 x2) := by
  intro n
  induction n with
  | zero =>
    intro T x0 x1 x2 h
    rw [rl_Model_invoke_89]
    exact jv_none
  | succ n ih =>
    intro T x0 x1 x2 h
    rw [rl_Model_invoke_89]
    repeat' first
      | with_reducible exact jv_none
      | with_reducible refine jv_some ?_
      | with_reducible refine jv_ite (fun _ => ?_) (fun _ => ?_)
      | with_reducible refine jv_gd ?_
      | with_reducible refine jv_stK ?_ (fun _ _ => ?_)
      | with_reducible refine jv_vK (fun _ => ?_)
      | with_reducible refine jv_lK (fun _ => ?_)
      | with_reducible refine jv_bi ?_ (fun _ _ _ _ => ?_)
      | with_reducible refine hF _ _ _ _ ?_ ?_
      | with_reducible refine ih _ _ _ _ ?_
      | assumption
      | with_reducible refine i78_sI ?_ (by decide) (by decide)
      | with_reducible refine i78_sJ ?_
      | with_reducible refine i78_sA ?_ (by decide) (by decide)
      | with_reducible exact jvA_o (by decide)
      | with_reducible refine jvA_13 ?_
      | decide
      | with_reducible exact nz_nle (by assumption)
theorem jv_rl_Model_invoke_34 (hF : jvF F) : ∀ (n : Nat) (T : gSt) (x0 : Int32) (x1 : Int32) (x2 : Int32) (x3 : Int32) (x4 : Int32), I78 T → jv (rl_Model_invoke_34 F nf n T x0 x1 x2 x3 x4) := by
  intro n
  induction n with
  | zero =>
    intro T x0 x1 x2 x3 x4 h
    rw [rl_Model_invoke_34]
    exact jv_none
  | succ n ih =>
    intro T x0 x1 x2 x3 x4 h
    rw [rl_Model_invoke_34]
    repeat' first
      | with_reducible exact jv_none
      | with_reducible refine jv_some ?_
      | with_reducible refine jv_ite (fun _ => ?_) (fun _ => ?_)
      | with_reducible refine jv_gd ?_
      | with_reducible refine jv_stK ?_ (fun _ _ => ?_)
      | with_reducible refine jv_vK (fun _ => ?_)
      | with_reducible refine jv_lK (fun _ => ?_)
      | with_reducible refine jv_bi ?_ (fun _ _ _ _ => ?_)
      | with_reducible refine hF _ _ _ _ ?_ ?_
      | with_reducible refine jv_rl_Model_invoke_89 hF  _ _ _ _ _ ?_
      | with_reducible refine ih _ _ _ _ _ _ ?_
      | assumption
      | with_reducible refine i78_sI ?_ (by decide) (by decide)
      | with_reducible refine i78_sJ ?_
      | with_reducible refine i78_sA ?_ (by decide) (by decide)
      | with_reducible exact jvA_o (by decide)
      | with_reducible refine jvA_13 ?_
      | decide
      | with_reducible exact nz_nle (by assumption)
theorem jv_rb_Model_invoke (hF : jvF F) (T : gSt) (p1 : Int32) (p2 : Int32) (h : I78 T) : jv (rb_Model_invoke F nf T p1 p2) := by
    unfold rb_Model_invoke
    repeat' first
      | with_reducible exact jv_none
      | with_reducible refine jv_some ?_
      | with_reducible refine jv_ite (fun _ => ?_) (fun _ => ?_)
      | with_reducible refine jv_gd ?_
      | with_reducible refine jv_stK ?_ (fun _ _ => ?_)
      | with_reducible refine jv_vK (fun _ => ?_)
      | with_reducible refine jv_lK (fun _ => ?_)
      | with_reducible refine jv_bi ?_ (fun _ _ _ _ => ?_)
      | with_reducible refine hF _ _ _ _ ?_ ?_
      | with_reducible refine jv_rl_Model_invoke_34 hF  _ _ _ _ _ _ _ ?_
      | assumption
      | with_reducible refine i78_sI ?_ (by decide) (by decide)
      | with_reducible refine i78_sJ ?_
      | with_reducible refine i78_sA ?_ (by decide) (by decide)
      | with_reducible exact jvA_o (by decide)
      | with_reducible refine jvA_13 ?_
      | decide
      | with_reducible exact nz_nle (by assumption)
theorem jv_rj_Model_back_48 (hF : jvF F) (T : gSt) (h : I78 T) : jv (rj_Model_back_48 F nf T) := by
    unfold rj_Model_back_48
    repeat' first
      | with_reducible exact jv_none
      | with_reducible refine jv_some ?_
      | with_reducible refine jv_ite (fun _ => ?_) (fun _ => ?_)
      | with_reducible refine jv_gd ?_
      | with_reducible refine jv_stK ?_ (fun _ _ => ?_)
      | with_reducible refine jv_vK (fun _ => ?_)
      | with_reducible refine jv_lK (fun _ => ?_)
      | with_reducible refine jv_bi ?_ (fun _ _ _ _ => ?_)
      | with_reducible refine hF _ _ _ _ ?_ ?_
      | assumption
      | with_reducible refine i78_sI ?_ (by decide) (by decide)
      | with_reducible refine i78_sJ ?_
      | with_reducible refine i78_sA ?_ (by decide) (by decide)
      | with_reducible exact jvA_o (by decide)
      | with_reducible refine jvA_13 ?_
      | decide
      | with_reducible exact nz_nle (by assumption)
theorem jv_rl_Model_back_10 (hF : jvF F) : ∀ (n : Nat) (T : gSt), I78 T → jv (rl_Model_back_10 F nf n T ) := by
  intro n
  induction n with
  | zero =>
    intro T  h
    rw [rl_Model_back_10]
    exact jv_none
  | succ n ih =>
    intro T  h
    rw [rl_Model_back_10]
    repeat' first
      | with_reducible exact jv_none
      | with_reducible refine jv_some ?_
      | with_reducible refine jv_ite (fun _ => ?_) (fun _ => ?_)
      | with_reducible refine jv_gd ?_
      | with_reducible refine jv_stK ?_ (fun _ _ => ?_)
      | with_reducible refine jv_vK (fun _ => ?_)
      | with_reducible refine jv_lK (fun _ => ?_)
      | with_reducible refine jv_bi ?_ (fun _ _ _ _ => ?_)
      | with_reducible refine hF _ _ _ _ ?_ ?_
      | with_reducible refine jv_rj_Model_back_48 hF  _  ?_
      | with_reducible refine ih _  ?_
      | assumption
      | with_reducible refine i78_sI ?_ (by decide) (by decide)
      | with_reducible refine i78_sJ ?_
      | with_reducible refine i78_sA ?_ (by decide) (by decide)
      | with_reducible exact jvA_o (by decide)
      | with_reducible refine jvA_13 ?_
      | decide
      | with_reducible exact nz_nle (by assumption)
theorem jv_rb_Model_back (hF : jvF F) (T : gSt) (h : I78 T) : jv (rb_Model_back F nf T) := by
    unfold rb_Model_back
    repeat' first
      | with_reducible exact jv_none
      | with_reducible refine jv_some ?_
      | with_reducible refine jv_ite (fun _ => ?_) (fun _ => ?_)
      | with_reducible refine jv_gd ?_
      | with_reducible refine jv_stK ?_ (fun _ _ => ?_)
      | with_reducible refine jv_vK (fun _ => ?_)
      | with_reducible refine jv_lK (fun _ => ?_)
      | with_reducible refine jv_bi ?_ (fun _ _ _ _ => ?_)
      | with_reducible refine hF _ _ _ _ ?_ ?_
      | with_reducible refine jv_rl_Model_back_10 hF  _ _  ?_
      | assumption
      | with_reducible refine i78_sI ?_ (by decide) (by decide)
      | with_reducible refine i78_sJ ?_
      | with_reducible refine i78_sA ?_ (by decide) (by decide)
      | with_reducible exact jvA_o (by decide)
      | with_reducible refine jvA_13 ?_
      | decide
      | with_reducible exact nz_nle (by assumption)
theorem jv_rl_Model_makeBy_207 (hF : jvF F) : ∀ (n : Nat) (T : gSt) (x0 : Int32) (x1 : Int32) (x2 : Int32) (x3 : Int32) (x4 : Int32), I78 T → jv (rl_Model_makeBy_207 F nf n T x0 x1 x2 x3 x4) := by
  intro n
  induction n with
  | zero =>
    intro T x0 x1 x2 x3 x4 h
    rw [rl_Model_makeBy_207]
    exact jv_none
  | succ n ih =>
    intro T x0 x1 x2 x3 x4 h
    rw [rl_Model_makeBy_207]
    repeat' first
      | with_reducible exact jv_none
      | with_reducible refine jv_some ?_
      | with_reducible refine jv_ite (fun _ => ?_) (fun _ => ?_)
      | with_reducible refine jv_gd ?_
      | with_reducible refine jv_stK ?_ (fun _ _ => ?_)
      | with_reducible refine jv_vK (fun _ => ?_)
      | with_reducible refine jv_lK (fun _ => ?_)
      | with_reducible refine jv_bi ?_ (fun _ _ _ _ => ?_)
      | with_reducible refine hF _ _ _ _ ?_ ?_
      | with_reducible refine ih _ _ _ _ _ _ ?_
      | assumption
      | with_reducible refine i78_sI ?_ (by decide) (by decide)
      | with_reducible refine i78_sJ ?_
      | with_reducible refine i78_sA ?_ (by decide) (by decide)
      | with_reducible exact jvA_o (by decide)
      | with_reducible refine jvA_13 ?_
      | decide
      | with_reducible exact nz_nle (by assumption)
end IVT
