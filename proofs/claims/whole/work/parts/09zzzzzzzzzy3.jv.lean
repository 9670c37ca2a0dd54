section IVT
variable {F : gF} {nf : Nat}
theorem jv_rj_Model_makeBy_171 (hF : jvF F) (T : gSt) (x1 : Int32) (x4 : Int32) (x5 : Int32) (x6 : Int32) (y0 : Int64) (y1 : Int64) (h : I78 T) : jv (rj_Model_makeBy_171 F nf T x1 x4 x5 x6 y0 y1) := by
    unfold rj_Model_makeBy_171
    repeat' first
      | with_reducible exact jv_none
      | with_reducible refine jv_some ?_
      | with_reducible refine jv_ite (fun _ => ?_) (fun _ => ?_)
      | with_reducible refine jv_gd ?_
      | with_reducible refine jv_stK ?_ (fun _ _ => ?_)
      | with_reducible refine jv_vK (fun _ => ?_)
      | with_reducible refine jv_lK (fun _ => ?_)
      | with_reducible refine jv_bi ?_ (fun _ _ _ _ => ?_)
      | with_reducible refine hF _ _ _ _ ?_ ?_
      | with_reducible refine jv_rl_Model_makeBy_207 hF  _ _ _ _ _ _ _ ?_
      | assumption
      | with_reducible refine i78_sI ?_ (by decide) (by decide)
      | with_reducible refine i78_sJ ?_
      | with_reducible refine i78_sA ?_ (by decide) (by decide)
      | with_reducible exact jvA_o (by decide)
      | with_reducible refine jvA_13 ?_
      | decide
      | with_reducible exact nz_nle (by assumption)
theorem jv_rj_Model_makeBy_131 (hF : jvF F) {rec_69 : gSt → Int32 → Int32 → Int32 → Int32 → Int32 → Int64 → Int32 → Int32 → gR} (hrec_69 : ∀ T a0 a1 a2 a3 a4 a5 a6 a7, I78 T → jv (rec_69 T a0 a1 a2 a3 a4 a5 a6 a7)) (T : gSt) (x1 : Int32) (x3 : Int32) (x4 : Int32) (x5 : Int32) (x6 : Int32) (x9 : Int32) (x10 : Int32) (x11 : Int32) (y0 : Int64) (y1 : Int64) (h : I78 T) : jv (rj_Model_makeBy_131 F nf rec_69 T x1 x3 x4 x5 x6 x9 x10 x11 y0 y1) := by
    unfold rj_Model_makeBy_131
    repeat' first
      | with_reducible exact jv_none
      | with_reducible refine jv_some ?_
      | with_reducible refine jv_ite (fun _ => ?_) (fun _ => ?_)
      | with_reducible refine jv_gd ?_
      | with_reducible refine jv_stK ?_ (fun _ _ => ?_)
      | with_reducible refine jv_vK (fun _ => ?_)
      | with_reducible refine jv_lK (fun _ => ?_)
      | with_reducible refine jv_bi ?_ (fun _ _ _ _ => ?_)
      | with_reducible refine hF _ _ _ _ ?_ ?_
      | with_reducible refine hrec_69 _ _ _ _ _ _ _ _ _ ?_
      | assumption
      | with_reducible refine i78_sI ?_ (by decide) (by decide)
      | with_reducible refine i78_sJ ?_
      | with_reducible refine i78_sA ?_ (by decide) (by decide)
      | with_reducible exact jvA_o (by decide)
      | with_reducible refine jvA_13 ?_
      | decide
      | with_reducible exact nz_nle (by assumption)
theorem jv_rj_Model_makeBy_86 (hF : jvF F) {rec_69 : gSt → Int32 → Int32 → Int32 → Int32 → Int32 → Int64 → Int32 → Int32 → gR} (hrec_69 : ∀ T a0 a1 a2 a3 a4 a5 a6 a7, I78 T → jv (rec_69 T a0 a1 a2 a3 a4 a5 a6 a7)) (T : gSt) (x1 : Int32) (x3 : Int32) (x4 : Int32) (x5 : Int32) (x6 : Int32) (x7 : Int64) (x9 : Int32) (x10 : Int32) (y0 : Int32) (y2 : Int32) (h : I78 T) : jv (rj_Model_makeBy_86 F nf rec_69 T x1 x3 x4 x5 x6 x7 x9 x10 y0 y2) := by
    unfold rj_Model_makeBy_86
    repeat' first
      | with_reducible exact jv_none
      | with_reducible refine jv_some ?_
      | with_reducible refine jv_ite (fun _ => ?_) (fun _ => ?_)
      | with_reducible refine jv_gd ?_
      | with_reducible refine jv_stK ?_ (fun _ _ => ?_)
      | with_reducible refine jv_vK (fun _ => ?_)
      | with_reducible refine jv_lK (fun _ => ?_)
      | with_reducible refine jv_bi ?_ (fun _ _ _ _ => ?_)
      | with_reducible refine hF _ _ _ _ ?_ ?_
      | with_reducible refine jv_rj_Model_makeBy_131 hF ?_ _ _ _ _ _ _ _ _ _ _ _ ?_
      | with_reducible refine jv_rj_Model_makeBy_171 hF  _ _ _ _ _ _ _ ?_
      | with_reducible refine hrec_69 _ _ _ _ _ _ _ _ _ ?_
      | assumption
      | with_reducible refine i78_sI ?_ (by decide) (by decide)
      | with_reducible refine i78_sJ ?_
      | with_reducible refine i78_sA ?_ (by decide) (by decide)
      | with_reducible exact jvA_o (by decide)
      | with_reducible refine jvA_13 ?_
      | decide
      | with_reducible exact nz_nle (by assumption)
theorem jv_rl_Model_makeBy_69 (hF : jvF F) : ∀ (n : Nat) (T : gSt) (x0 : Int32) (x1 : Int32) (x2 : Int32) (x3 : Int32) (x4 : Int32) (x5 : Int64) (x6 : Int32) (x7 : Int32), I78 T → jv (rl_Model_makeBy_69 F nf n T x0 x1 x2 x3 x4 x5 x6 x7) := by
  intro n
  induction n with
  | zero =>
    intro T x0 x1 x2 x3 x4 x5 x6 x7 h
    rw [rl_Model_makeBy_69]
    exact jv_none
  | succ n ih =>
    intro T x0 x1 x2 x3 x4 x5 x6 x7 h
    rw [rl_Model_makeBy_69]
    repeat' first
      | with_reducible exact jv_none
      | with_reducible refine jv_some ?_
      | with_reducible refine jv_ite (fun _ => ?_) (fun _ => ?_)
      | with_reducible refine jv_gd ?_
      | with_reducible refine jv_stK ?_ (fun _ _ => ?_)
      | with_reducible refine jv_vK (fun _ => ?_)
      | with_reducible refine jv_lK (fun _ => ?_)
      | with_reducible refine jv_bi ?_ (fun _ _ _ _ => ?_)
      | with_reducible refine hF _ _ _ _ ?_ ?_
      | with_reducible refine jv_rj_Model_makeBy_86 hF ?_ _ _ _ _ _ _ _ _ _ _ _ ?_
      | with_reducible refine ih _ _ _ _ _ _ _ _ _ ?_
      | assumption
      | with_reducible refine i78_sI ?_ (by decide) (by decide)
      | with_reducible refine i78_sJ ?_
      | with_reducible refine i78_sA ?_ (by decide) (by decide)
      | with_reducible exact jvA_o (by decide)
      | with_reducible refine jvA_13 ?_
      | decide
      | with_reducible exact nz_nle (by assumption)
theorem jv_rj_Model_makeBy_37 (hF : jvF F) (T : gSt) (x1 : Int32) (x3 : Int32) (x4 : Int32) (x5 : Int32) (y0 : Int32) (h : I78 T) : jv (rj_Model_makeBy_37 F nf T x1 x3 x4 x5 y0) := by
    unfold rj_Model_makeBy_37
    repeat' first
      | with_reducible exact jv_none
      | with_reducible refine jv_some ?_
      | with_reducible refine jv_ite (fun _ => ?_) (fun _ => ?_)
      | with_reducible refine jv_gd ?_
      | with_reducible refine jv_stK ?_ (fun _ _ => ?_)
      | with_reducible refine jv_vK (fun _ => ?_)
      | with_reducible refine jv_lK (fun _ => ?_)
      | with_reducible refine jv_bi ?_ (fun _ _ _ _ => ?_)
      | with_reducible refine hF _ _ _ _ ?_ ?_
      | with_reducible refine jv_rl_Model_makeBy_69 hF  _ _ _ _ _ _ _ _ _ _ ?_
      | assumption
      | with_reducible refine i78_sI ?_ (by decide) (by decide)
      | with_reducible refine i78_sJ ?_
      | with_reducible refine i78_sA ?_ (by decide) (by decide)
      | with_reducible exact jvA_o (by decide)
      | with_reducible refine jvA_13 ?_
      | decide
      | with_reducible exact nz_nle (by assumption)
theorem jv_rb_Model_makeBy (hF : jvF F) (T : gSt) (p1 : Int32) (p2 : Int32) (p3 : Int32) (p4 : Int32) (h : I78 T) : jv (rb_Model_makeBy F nf T p1 p2 p3 p4) := by
    unfold rb_Model_makeBy
    repeat' first
      | with_reducible exact jv_none
      | with_reducible refine jv_some ?_
      | with_reducible refine jv_ite (fun _ => ?_) (fun _ => ?_)
      | with_reducible refine jv_gd ?_
      | with_reducible refine jv_stK ?_ (fun _ _ => ?_)
      | with_reducible refine jv_vK (fun _ => ?_)
      | with_reducible refine jv_lK (fun _ => ?_)
      | with_reducible refine jv_bi ?_ (fun _ _ _ _ => ?_)
      | with_reducible refine hF _ _ _ _ ?_ ?_
      | with_reducible refine jv_rj_Model_makeBy_37 hF  _ _ _ _ _ _ ?_
      | assumption
      | with_reducible refine i78_sI ?_ (by decide) (by decide)
      | with_reducible refine i78_sJ ?_
      | with_reducible refine i78_sA ?_ (by decide) (by decide)
      | with_reducible exact jvA_o (by decide)
      | with_reducible refine jvA_13 ?_
      | decide
      | with_reducible exact nz_nle (by assumption)
theorem jv_rl_Model_makeRow_45 (hF : jvF F) : ∀ (n : Nat) (T : gSt) (x0 : Int32) (x1 : Int32) (x2 : Int32), I78 T → jv (rl_Model_makeRow_45 F nf n T x0 x1 x2) := by
  intro n
  induction n with
  | zero =>
    intro T x0 x1 x2 h
    rw [rl_Model_makeRow_45]
    exact jv_none
  | succ n ih =>
    intro T x0 x1 x2 h
    rw [rl_Model_makeRow_45]
    repeat' first
      | with_reducible exact jv_none
      | with_reducible refine jv_some ?_
      | with_reducible refine jv_ite (fun _ => ?_) (fun _ => ?_)
      | with_reducible refine jv_gd ?_
      | with_reducible refine jv_stK ?_ (fun _ _ => ?_)
      | with_reducible refine jv_vK (fun _ => ?_)
      | with_reducible refine jv_lK (fun _ => ?_)
      | with_reducible refine jv_bi ?_ (fun _ _ _ _ => ?_)
      | with_reducible refine hF _ _ _ _ ?_ ?_
      | with_reducible refine ih _ _ _ _ ?_
      | assumption
      | with_reducible refine i78_sI ?_ (by decide) (by decide)
      | with_reducible refine i78_sJ ?_
      | with_reducible refine i78_sA ?_ (by decide) (by decide)
      | with_reducible exact jvA_o (by decide)
      | with_reducible refine jvA_13 ?_
      | decide
      | with_reducible exact nz_nle (by assumption)
theorem jv_rb_Model_makeRow (hF : jvF F) (T : gSt) (p1 : Int32) (p2 : Int32) (h : I78 T) : jv (rb_Model_makeRow F nf T p1 p2) := by
    unfold rb_Model_makeRow
    repeat' first
      | with_reducible exact jv_none
      | with_reducible refine jv_some ?_
      | with_reducible refine jv_ite (fun _ => ?_) (fun _ => ?_)
      | with_reducible refine jv_gd ?_
      | with_reducible refine jv_stK ?_ (fun _ _ => ?_)
      | with_reducible refine jv_vK (fun _ => ?_)
      | with_reducible refine jv_lK (fun _ => ?_)
      | with_reducible refine jv_bi ?_ (fun _ _ _ _ => ?_)
      | with_reducible refine hF _ _ _ _ ?_ ?_
      | with_reducible refine jv_rl_Model_makeRow_45 hF  _ _ _ _ _ ?_
      | assumption
      | with_reducible refine i78_sI ?_ (by decide) (by decide)
      | with_reducible refine i78_sJ ?_
      | with_reducible refine i78_sA ?_ (by decide) (by decide)
      | with_reducible exact jvA_o (by decide)
      | with_reducible refine jvA_13 ?_
      | decide
      | with_reducible exact nz_nle (by assumption)
theorem jv_rj_Model_reckon_170 (hF : jvF F) (T : gSt) (x2 : Int32) (x3 : Int32) (x4 : Int32) (h : I78 T) : jv (rj_Model_reckon_170 F nf T x2 x3 x4) := by
    unfold rj_Model_reckon_170
    repeat' first
      | with_reducible exact jv_none
      | with_reducible refine jv_some ?_
      | with_reducible refine jv_ite (fun _ => ?_) (fun _ => ?_)
      | with_reducible refine jv_gd ?_
      | with_reducible refine jv_stK ?_ (fun _ _ => ?_)
      | with_reducible refine jv_vK (fun _ => ?_)
      | with_reducible refine jv_lK (fun _ => ?_)
      | with_reducible refine jv_bi ?_ (fun _ _ _ _ => ?_)
      | with_reducible refine hF _ _ _ _ ?_ ?_
      | assumption
      | with_reducible refine i78_sI ?_ (by decide) (by decide)
      | with_reducible refine i78_sJ ?_
      | with_reducible refine i78_sA ?_ (by decide) (by decide)
      | with_reducible exact jvA_o (by decide)
      | with_reducible refine jvA_13 ?_
      | decide
      | with_reducible exact nz_nle (by assumption)
theorem jv_rj_Model_reckon_121 (hF : jvF F) (T : gSt) (x3 : Int32) (y0 : Int32) (h : I78 T) : jv (rj_Model_reckon_121 F nf T x3 y0) := by
    unfold rj_Model_reckon_121
    repeat' first
      | with_reducible exact jv_none
      | with_reducible refine jv_some ?_
      | with_reducible refine jv_ite (fun _ => ?_) (fun _ => ?_)
      | with_reducible refine jv_gd ?_
      | with_reducible refine jv_stK ?_ (fun _ _ => ?_)
      | with_reducible refine jv_vK (fun _ => ?_)
      | with_reducible refine jv_lK (fun _ => ?_)
      | with_reducible refine jv_bi ?_ (fun _ _ _ _ => ?_)
      | with_reducible refine hF _ _ _ _ ?_ ?_
      | assumption
      | with_reducible refine i78_sI ?_ (by decide) (by decide)
      | with_reducible refine i78_sJ ?_
      | with_reducible refine i78_sA ?_ (by decide) (by decide)
      | with_reducible exact jvA_o (by decide)
      | with_reducible refine jvA_13 ?_
      | decide
      | with_reducible exact nz_nle (by assumption)
theorem jv_rb_Model_reckon (hF : jvF F) (T : gSt) (p1 : Int32) (p2 : Int32) (h : I78 T) : jv (rb_Model_reckon F nf T p1 p2) := by
    unfold rb_Model_reckon
    repeat' first
      | with_reducible exact jv_none
      | with_reducible refine jv_some ?_
      | with_reducible refine jv_ite (fun _ => ?_) (fun _ => ?_)
      | with_reducible refine jv_gd ?_
      | with_reducible refine jv_stK ?_ (fun _ _ => ?_)
      | with_reducible refine jv_vK (fun _ => ?_)
      | with_reducible refine jv_lK (fun _ => ?_)
      | with_reducible refine jv_bi ?_ (fun _ _ _ _ => ?_)
      | with_reducible refine hF _ _ _ _ ?_ ?_
      | with_reducible refine jv_rj_Model_reckon_121 hF  _ _ _ ?_
      | with_reducible refine jv_rj_Model_reckon_170 hF  _ _ _ _ ?_
      | assumption
      | with_reducible refine i78_sI ?_ (by decide) (by decide)
      | with_reducible refine i78_sJ ?_
      | with_reducible refine i78_sA ?_ (by decide) (by decide)
      | with_reducible exact jvA_o (by decide)
      | with_reducible refine jvA_13 ?_
      | decide
      | with_reducible exact nz_nle (by assumption)
theorem jv_rj_Model_touch_502 (hF : jvF F) (T : gSt) (x4 : Int32) (x5 : Int32) (x6 : Int32) (h : I78 T) : jv (rj_Model_touch_502 F nf T x4 x5 x6) := by
    unfold rj_Model_touch_502
    repeat' first
      | with_reducible exact jv_none
      | with_reducible refine jv_some ?_
      | with_reducible refine jv_ite (fun _ => ?_) (fun _ => ?_)
      | with_reducible refine jv_gd ?_
      | with_reducible refine jv_stK ?_ (fun _ _ => ?_)
      | with_reducible refine jv_vK (fun _ => ?_)
      | with_reducible refine jv_lK (fun _ => ?_)
      | with_reducible refine jv_bi ?_ (fun _ _ _ _ => ?_)
      | with_reducible refine hF _ _ _ _ ?_ ?_
      | assumption
      | with_reducible refine i78_sI ?_ (by decide) (by decide)
      | with_reducible refine i78_sJ ?_
      | with_reducible refine i78_sA ?_ (by decide) (by decide)
      | with_reducible exact jvA_o (by decide)
      | with_reducible refine jvA_13 ?_
      | decide
      | with_reducible exact nz_nle (by assumption)
theorem jv_rj_Model_touch_390 (hF : jvF F) (T : gSt) (x2 : Int32) (x5 : Int32) (h : I78 T) : jv (rj_Model_touch_390 F nf T x2 x5) := by
    unfold rj_Model_touch_390
    repeat' first
      | with_reducible exact jv_none
      | with_reducible refine jv_some ?_
      | with_reducible refine jv_ite (fun _ => ?_) (fun _ => ?_)
      | with_reducible refine jv_gd ?_
      | with_reducible refine jv_stK ?_ (fun _ _ => ?_)
      | with_reducible refine jv_vK (fun _ => ?_)
      | with_reducible refine jv_lK (fun _ => ?_)
      | with_reducible refine jv_bi ?_ (fun _ _ _ _ => ?_)
      | with_reducible refine hF _ _ _ _ ?_ ?_
      | assumption
      | with_reducible refine i78_sI ?_ (by decide) (by decide)
      | with_reducible refine i78_sJ ?_
      | with_reducible refine i78_sA ?_ (by decide) (by decide)
      | with_reducible exact jvA_o (by decide)
      | with_reducible refine jvA_13 ?_
      | decide
      | with_reducible exact nz_nle (by assumption)
theorem jv_rj_Model_touch_207 (hF : jvF F) (T : gSt) (x1 : Int32) (x7 : Int32) (x8 : Int32) (x9 : Int32) (h : I78 T) : jv (rj_Model_touch_207 F nf T x1 x7 x8 x9) := by
    unfold rj_Model_touch_207
    repeat' first
      | with_reducible exact jv_none
      | with_reducible refine jv_some ?_
      | with_reducible refine jv_ite (fun _ => ?_) (fun _ => ?_)
      | with_reducible refine jv_gd ?_
      | with_reducible refine jv_stK ?_ (fun _ _ => ?_)
      | with_reducible refine jv_vK (fun _ => ?_)
      | with_reducible refine jv_lK (fun _ => ?_)
      | with_reducible refine jv_bi ?_ (fun _ _ _ _ => ?_)
      | with_reducible refine hF _ _ _ _ ?_ ?_
      | assumption
      | with_reducible refine i78_sI ?_ (by decide) (by decide)
      | with_reducible refine i78_sJ ?_
      | with_reducible refine i78_sA ?_ (by decide) (by decide)
      | with_reducible exact jvA_o (by decide)
      | with_reducible refine jvA_13 ?_
      | decide
      | with_reducible exact nz_nle (by assumption)
theorem jv_rj_Model_touch_104 (hF : jvF F) (T : gSt) (x1 : Int32) (x4 : Int32) (h : I78 T) : jv (rj_Model_touch_104 F nf T x1 x4) := by
    unfold rj_Model_touch_104
    repeat' first
      | with_reducible exact jv_none
      | with_reducible refine jv_some ?_
      | with_reducible refine jv_ite (fun _ => ?_) (fun _ => ?_)
      | with_reducible refine jv_gd ?_
      | with_reducible refine jv_stK ?_ (fun _ _ => ?_)
      | with_reducible refine jv_vK (fun _ => ?_)
      | with_reducible refine jv_lK (fun _ => ?_)
      | with_reducible refine jv_bi ?_ (fun _ _ _ _ => ?_)
      | with_reducible refine hF _ _ _ _ ?_ ?_
      | with_reducible refine jv_rj_Model_touch_207 hF  _ _ _ _ _ ?_
      | assumption
      | with_reducible refine i78_sI ?_ (by decide) (by decide)
      | with_reducible refine i78_sJ ?_
      | with_reducible refine i78_sA ?_ (by decide) (by decide)
      | with_reducible exact jvA_o (by decide)
      | with_reducible refine jvA_13 ?_
      | decide
      | with_reducible exact nz_nle (by assumption)
theorem jv_rb_Model_touch (hF : jvF F) (T : gSt) (p1 : Int32) (p2 : Int32) (p3 : Int32) (h : I78 T) : jv (rb_Model_touch F nf T p1 p2 p3) := by
    unfold rb_Model_touch
    repeat' first
      | with_reducible exact jv_none
      | with_reducible refine jv_some ?_
      | with_reducible refine jv_ite (fun _ => ?_) (fun _ => ?_)
      | with_reducible refine jv_gd ?_
      | with_reducible refine jv_stK ?_ (fun _ _ => ?_)
      | with_reducible refine jv_vK (fun _ => ?_)
      | with_reducible refine jv_lK (fun _ => ?_)
      | with_reducible refine jv_bi ?_ (fun _ _ _ _ => ?_)
      | with_reducible refine hF _ _ _ _ ?_ ?_
      | with_reducible refine jv_rj_Model_touch_104 hF  _ _ _ ?_
      | with_reducible refine jv_rj_Model_touch_390 hF  _ _ _ ?_
      | with_reducible refine jv_rj_Model_touch_502 hF  _ _ _ _ ?_
      | assumption
      | with_reducible refine i78_sI ?_ (by decide) (by decide)
      | with_reducible refine i78_sJ ?_
      | with_reducible refine i78_sA ?_ (by decide) (by decide)
      | with_reducible exact jvA_o (by decide)
      | with_reducible refine jvA_13 ?_
      | decide
      | with_reducible exact nz_nle (by assumption)
theorem jv_rj_Model_build_107 (hF : jvF F) (T : gSt) (h : I78 T) : jv (rj_Model_build_107 F nf T) := by
    unfold rj_Model_build_107
    repeat' first
      | with_reducible exact jv_none
      | with_reducible refine jv_some ?_
      | with_reducible refine jv_ite (fun _ => ?_) (fun _ => ?_)
      | with_reducible refine jv_gd ?_
      | with_reducible refine jv_stK ?_ (fun _ _ => ?_)
      | with_reducible refine jv_vK (fun _ => ?_)
      | with_reducible refine jv_lK (fun _ => ?_)
      | with_reducible refine jv_bi ?_ (fun _ _ _ _ => ?_)
      | with_reducible refine hF _ _ _ _ ?_ ?_
      | assumption
      | with_reducible refine i78_sI ?_ (by decide) (by decide)
      | with_reducible refine i78_sJ ?_
      | with_reducible refine i78_sA ?_ (by decide) (by decide)
      | with_reducible exact jvA_o (by decide)
      | with_reducible refine jvA_13 ?_
      | decide
      | with_reducible exact nz_nle (by assumption)
theorem jv_rl_Model_build_71 (hF : jvF F) : ∀ (n : Nat) (T : gSt) (x0 : Int32), I78 T → jv (rl_Model_build_71 F nf n T x0) := by
  intro n
  induction n with
  | zero =>
    intro T x0 h
    rw [rl_Model_build_71]
    exact jv_none
  | succ n ih =>
    intro T x0 h
    rw [rl_Model_build_71]
    repeat' first
      | with_reducible exact jv_none
      | with_reducible refine jv_some ?_
      | with_reducible refine jv_ite (fun _ => ?_) (fun _ => ?_)
      | with_reducible refine jv_gd ?_
      | with_reducible refine jv_stK ?_ (fun _ _ => ?_)
      | with_reducible refine jv_vK (fun _ => ?_)
      | with_reducible refine jv_lK (fun _ => ?_)
      | with_reducible refine jv_bi ?_ (fun _ _ _ _ => ?_)
      | with_reducible refine hF _ _ _ _ ?_ ?_
      | with_reducible refine jv_rj_Model_build_107 hF  _  ?_
      | with_reducible refine ih _ _ ?_
      | assumption
      | with_reducible refine i78_sI ?_ (by decide) (by decide)
      | with_reducible refine i78_sJ ?_
      | with_reducible refine i78_sA ?_ (by decide) (by decide)
      | with_reducible exact jvA_o (by decide)
      | with_reducible refine jvA_13 ?_
      | decide
      | with_reducible exact nz_nle (by assumption)
theorem jv_rb_Model_build (hF : jvF F) (T : gSt) (h : I78 T) : jv (rb_Model_build F nf T) := by
    unfold rb_Model_build
    refine jv_bi (hF _ _ _ _ h (jvA_o (by decide))) (fun _ _ T1 h1 => ?_)
    rw [stK, stK]
    refine jv_stK (fun _ => sI_v) (fun _ _ => ?_)
    repeat' first
      | with_reducible exact jv_none
      | with_reducible refine jv_some ?_
      | with_reducible refine jv_ite (fun _ => ?_) (fun _ => ?_)
      | with_reducible refine jv_gd ?_
      | with_reducible refine jv_stK ?_ (fun _ _ => ?_)
      | with_reducible refine jv_vK (fun _ => ?_)
      | with_reducible refine jv_lK (fun _ => ?_)
      | with_reducible refine jv_bi ?_ (fun _ _ _ _ => ?_)
      | with_reducible refine hF _ _ _ _ ?_ ?_
      | with_reducible refine jv_rl_Model_build_71 hF  _ _ _ ?_
      | assumption
      | with_reducible refine i78_sI ?_ (by decide) (by decide)
      | with_reducible refine i78_sJ ?_
      | with_reducible refine i78_sA ?_ (by decide) (by decide)
      | with_reducible exact jvA_o (by decide)
      | with_reducible refine jvA_13 ?_
      | decide
      | with_reducible exact nz_nle (by assumption)
theorem jv_rb_Model_fault (hF : jvF F) (T : gSt) (p1 : Int32) (h : I78 T) : jv (rb_Model_fault F nf T p1) := by
    unfold rb_Model_fault
    repeat' first
      | with_reducible exact jv_none
      | with_reducible refine jv_some ?_
      | with_reducible refine jv_ite (fun _ => ?_) (fun _ => ?_)
      | with_reducible refine jv_gd ?_
      | with_reducible refine jv_stK ?_ (fun _ _ => ?_)
      | with_reducible refine jv_vK (fun _ => ?_)
      | with_reducible refine jv_lK (fun _ => ?_)
      | with_reducible refine jv_bi ?_ (fun _ _ _ _ => ?_)
      | with_reducible refine hF _ _ _ _ ?_ ?_
      | assumption
      | with_reducible refine i78_sI ?_ (by decide) (by decide)
      | with_reducible refine i78_sJ ?_
      | with_reducible refine i78_sA ?_ (by decide) (by decide)
      | with_reducible exact jvA_o (by decide)
      | with_reducible refine jvA_13 ?_
      | decide
      | with_reducible exact nz_nle (by assumption)
theorem jv_rl_Model_program_I_13 (hF : jvF F) : ∀ (n : Nat) (T : gSt) (x0 : Int32) (x1 : Int32) (x2 : Int32), I78 T → jv (rl_Model_program_I_13 F nf n T x0 x1 x2) := by
  intro n
  induction n with
  | zero =>
    intro T x0 x1 x2 h
    rw [rl_Model_program_I_13]
    exact jv_none
  | succ n ih =>
    intro T x0 x1 x2 h
    rw [rl_Model_program_I_13]
    repeat' first
      | with_reducible exact jv_none
      | with_reducible refine jv_some ?_
      | with_reducible refine jv_ite (fun _ => ?_) (fun _ => ?_)
      | with_reducible refine jv_gd ?_
      | with_reducible refine jv_stK ?_ (fun _ _ => ?_)
      | with_reducible refine jv_vK (fun _ => ?_)
      | with_reducible refine jv_lK (fun _ => ?_)
      | with_reducible refine jv_bi ?_ (fun _ _ _ _ => ?_)
      | with_reducible refine hF _ _ _ _ ?_ ?_
      | with_reducible refine ih _ _ _ _ ?_
      | assumption
      | with_reducible refine i78_sI ?_ (by decide) (by decide)
      | with_reducible refine i78_sJ ?_
      | with_reducible refine i78_sA ?_ (by decide) (by decide)
      | with_reducible exact jvA_o (by decide)
      | with_reducible refine jvA_13 ?_
      | decide
      | with_reducible exact nz_nle (by assumption)
theorem jv_rb_Model_program_I (hF : jvF F) (T : gSt) (p1 : Int32) (h : I78 T) : jv (rb_Model_program_I F nf T p1) := by
    unfold rb_Model_program_I
    repeat' first
      | with_reducible exact jv_none
      | with_reducible refine jv_some ?_
      | with_reducible refine jv_ite (fun _ => ?_) (fun _ => ?_)
      | with_reducible refine jv_gd ?_
      | with_reducible refine jv_stK ?_ (fun _ _ => ?_)
      | with_reducible refine jv_vK (fun _ => ?_)
      | with_reducible refine jv_lK (fun _ => ?_)
      | with_reducible refine jv_bi ?_ (fun _ _ _ _ => ?_)
      | with_reducible refine hF _ _ _ _ ?_ ?_
      | with_reducible refine jv_rl_Model_program_I_13 hF  _ _ _ _ _ ?_
      | assumption
      | with_reducible refine i78_sI ?_ (by decide) (by decide)
      | with_reducible refine i78_sJ ?_
      | with_reducible refine i78_sA ?_ (by decide) (by decide)
      | with_reducible exact jvA_o (by decide)
      | with_reducible refine jvA_13 ?_
      | decide
      | with_reducible exact nz_nle (by assumption)
theorem jv_rl_Model_start_57 (hF : jvF F) : ∀ (n : Nat) (T : gSt) (x0 : Int32), I78 T → jv (rl_Model_start_57 F nf n T x0) := by
  intro n
  induction n with
  | zero =>
    intro T x0 h
    rw [rl_Model_start_57]
    exact jv_none
  | succ n ih =>
    intro T x0 h
    rw [rl_Model_start_57]
    repeat' first
      | with_reducible exact jv_none
      | with_reducible refine jv_some ?_
      | with_reducible refine jv_ite (fun _ => ?_) (fun _ => ?_)
      | with_reducible refine jv_gd ?_
      | with_reducible refine jv_stK ?_ (fun _ _ => ?_)
      | with_reducible refine jv_vK (fun _ => ?_)
      | with_reducible refine jv_lK (fun _ => ?_)
      | with_reducible refine jv_bi ?_ (fun _ _ _ _ => ?_)
      | with_reducible refine hF _ _ _ _ ?_ ?_
      | with_reducible refine ih _ _ ?_
      | assumption
      | with_reducible refine i78_sI ?_ (by decide) (by decide)
      | with_reducible refine i78_sJ ?_
      | with_reducible refine i78_sA ?_ (by decide) (by decide)
      | with_reducible exact jvA_o (by decide)
      | with_reducible refine jvA_13 ?_
      | decide
      | with_reducible exact nz_nle (by assumption)
theorem jv_rb_Model_start (hF : jvF F) (T : gSt) (p1 : Int32) (p2 : Int32) (h : I78 T) : jv (rb_Model_start F nf T p1 p2) := by
    unfold rb_Model_start
    repeat' first
      | with_reducible exact jv_none
      | with_reducible refine jv_some ?_
      | with_reducible refine jv_ite (fun _ => ?_) (fun _ => ?_)
      | with_reducible refine jv_gd ?_
      | with_reducible refine jv_stK ?_ (fun _ _ => ?_)
      | with_reducible refine jv_vK (fun _ => ?_)
      | with_reducible refine jv_lK (fun _ => ?_)
      | with_reducible refine jv_bi ?_ (fun _ _ _ _ => ?_)
      | with_reducible refine hF _ _ _ _ ?_ ?_
      | with_reducible refine jv_rl_Model_start_57 hF  _ _ _ ?_
      | assumption
      | with_reducible refine i78_sI ?_ (by decide) (by decide)
      | with_reducible refine i78_sJ ?_
      | with_reducible refine i78_sA ?_ (by decide) (by decide)
      | with_reducible exact jvA_o (by decide)
      | with_reducible refine jvA_13 ?_
      | decide
      | with_reducible exact nz_nle (by assumption)
theorem jv_rb_Model_input_I (hF : jvF F) (T : gSt) (p1 : Int32) (h : I78 T) : jv (rb_Model_input_I F nf T p1) := by
    unfold rb_Model_input_I
    repeat' first
      | with_reducible exact jv_none
      | with_reducible refine jv_some ?_
      | with_reducible refine jv_ite (fun _ => ?_) (fun _ => ?_)
      | with_reducible refine jv_gd ?_
      | with_reducible refine jv_stK ?_ (fun _ _ => ?_)
      | with_reducible refine jv_vK (fun _ => ?_)
      | with_reducible refine jv_lK (fun _ => ?_)
      | with_reducible refine jv_bi ?_ (fun _ _ _ _ => ?_)
      | with_reducible refine hF _ _ _ _ ?_ ?_
      | assumption
      | with_reducible refine i78_sI ?_ (by decide) (by decide)
      | with_reducible refine i78_sJ ?_
      | with_reducible refine i78_sA ?_ (by decide) (by decide)
      | with_reducible exact jvA_o (by decide)
      | with_reducible refine jvA_13 ?_
      | decide
      | with_reducible exact nz_nle (by assumption)
theorem jv_rl_Model_run_I_24 (hF : jvF F) : ∀ (n : Nat) (T : gSt) (x0 : Int32) (x1 : Int32), I78 T → jv (rl_Model_run_I_24 F nf n T x0 x1) := by
  intro n
  induction n with
  | zero =>
    intro T x0 x1 h
    rw [rl_Model_run_I_24]
    exact jv_none
  | succ n ih =>
    intro T x0 x1 h
    rw [rl_Model_run_I_24]
    repeat' first
      | with_reducible exact jv_none
      | with_reducible refine jv_some ?_
      | with_reducible refine jv_ite (fun _ => ?_) (fun _ => ?_)
      | with_reducible refine jv_gd ?_
      | with_reducible refine jv_stK ?_ (fun _ _ => ?_)
      | with_reducible refine jv_vK (fun _ => ?_)
      | with_reducible refine jv_lK (fun _ => ?_)
      | with_reducible refine jv_bi ?_ (fun _ _ _ _ => ?_)
      | with_reducible refine hF _ _ _ _ ?_ ?_
      | with_reducible refine ih _ _ _ ?_
      | assumption
      | with_reducible refine i78_sI ?_ (by decide) (by decide)
      | with_reducible refine i78_sJ ?_
      | with_reducible refine i78_sA ?_ (by decide) (by decide)
      | with_reducible exact jvA_o (by decide)
      | with_reducible refine jvA_13 ?_
      | decide
      | with_reducible exact nz_nle (by assumption)
theorem jv_rb_Model_run_I (hF : jvF F) (T : gSt) (p1 : Int32) (h : I78 T) : jv (rb_Model_run_I F nf T p1) := by
    unfold rb_Model_run_I
    repeat' first
      | with_reducible exact jv_none
      | with_reducible refine jv_some ?_
      | with_reducible refine jv_ite (fun _ => ?_) (fun _ => ?_)
      | with_reducible refine jv_gd ?_
      | with_reducible refine jv_stK ?_ (fun _ _ => ?_)
      | with_reducible refine jv_vK (fun _ => ?_)
      | with_reducible refine jv_lK (fun _ => ?_)
      | with_reducible refine jv_bi ?_ (fun _ _ _ _ => ?_)
      | with_reducible refine hF _ _ _ _ ?_ ?_
      | with_reducible refine jv_rl_Model_run_I_24 hF  _ _ _ _ ?_
      | assumption
      | with_reducible refine i78_sI ?_ (by decide) (by decide)
      | with_reducible refine i78_sJ ?_
      | with_reducible refine i78_sA ?_ (by decide) (by decide)
      | with_reducible exact jvA_o (by decide)
      | with_reducible refine jvA_13 ?_
      | decide
      | with_reducible exact nz_nle (by assumption)
theorem jv_rb_Model_state (hF : jvF F) (T : gSt) (p1 : Int32) (h : I78 T) : jv (rb_Model_state F nf T p1) := by
    unfold rb_Model_state
    repeat' first
      | with_reducible exact jv_none
      | with_reducible refine jv_some ?_
      | with_reducible refine jv_ite (fun _ => ?_) (fun _ => ?_)
      | with_reducible refine jv_gd ?_
      | with_reducible refine jv_stK ?_ (fun _ _ => ?_)
      | with_reducible refine jv_vK (fun _ => ?_)
      | with_reducible refine jv_lK (fun _ => ?_)
      | with_reducible refine jv_bi ?_ (fun _ _ _ _ => ?_)
      | with_reducible refine hF _ _ _ _ ?_ ?_
      | assumption
      | with_reducible refine i78_sI ?_ (by decide) (by decide)
      | with_reducible refine i78_sJ ?_
      | with_reducible refine i78_sA ?_ (by decide) (by decide)
      | with_reducible exact jvA_o (by decide)
      | with_reducible refine jvA_13 ?_
      | decide
      | with_reducible exact nz_nle (by assumption)
theorem jv_rb_Model_world (hF : jvF F) (T : gSt) (p1 : Int32) (h : I78 T) : jv (rb_Model_world F nf T p1) := by
    unfold rb_Model_world
    repeat' first
      | with_reducible exact jv_none
      | with_reducible refine jv_some ?_
      | with_reducible refine jv_ite (fun _ => ?_) (fun _ => ?_)
      | with_reducible refine jv_gd ?_
      | with_reducible refine jv_stK ?_ (fun _ _ => ?_)
      | with_reducible refine jv_vK (fun _ => ?_)
      | with_reducible refine jv_lK (fun _ => ?_)
      | with_reducible refine jv_bi ?_ (fun _ _ _ _ => ?_)
      | with_reducible refine hF _ _ _ _ ?_ ?_
      | assumption
      | with_reducible refine i78_sI ?_ (by decide) (by decide)
      | with_reducible refine i78_sJ ?_
      | with_reducible refine i78_sA ?_ (by decide) (by decide)
      | with_reducible exact jvA_o (by decide)
      | with_reducible refine jvA_13 ?_
      | decide
      | with_reducible exact nz_nle (by assumption)
theorem jv_rb_Model_region (hF : jvF F) (T : gSt) (p1 : Int32) (p2 : Int32) (h : I78 T) : jv (rb_Model_region F nf T p1 p2) := by
    unfold rb_Model_region
    repeat' first
      | with_reducible exact jv_none
      | with_reducible refine jv_some ?_
      | with_reducible refine jv_ite (fun _ => ?_) (fun _ => ?_)
      | with_reducible refine jv_gd ?_
      | with_reducible refine jv_stK ?_ (fun _ _ => ?_)
      | with_reducible refine jv_vK (fun _ => ?_)
      | with_reducible refine jv_lK (fun _ => ?_)
      | with_reducible refine jv_bi ?_ (fun _ _ _ _ => ?_)
      | with_reducible refine hF _ _ _ _ ?_ ?_
      | assumption
      | with_reducible refine i78_sI ?_ (by decide) (by decide)
      | with_reducible refine i78_sJ ?_
      | with_reducible refine i78_sA ?_ (by decide) (by decide)
      | with_reducible exact jvA_o (by decide)
      | with_reducible refine jvA_13 ?_
      | decide
      | with_reducible exact nz_nle (by assumption)
theorem jv_rb_Model_printed (hF : jvF F) (T : gSt) (p1 : Int32) (h : I78 T) : jv (rb_Model_printed F nf T p1) := by
    unfold rb_Model_printed
    repeat' first
      | with_reducible exact jv_none
      | with_reducible refine jv_some ?_
      | with_reducible refine jv_ite (fun _ => ?_) (fun _ => ?_)
      | with_reducible refine jv_gd ?_
      | with_reducible refine jv_stK ?_ (fun _ _ => ?_)
      | with_reducible refine jv_vK (fun _ => ?_)
      | with_reducible refine jv_lK (fun _ => ?_)
      | with_reducible refine jv_bi ?_ (fun _ _ _ _ => ?_)
      | with_reducible refine hF _ _ _ _ ?_ ?_
      | assumption
      | with_reducible refine i78_sI ?_ (by decide) (by decide)
      | with_reducible refine i78_sJ ?_
      | with_reducible refine i78_sA ?_ (by decide) (by decide)
      | with_reducible exact jvA_o (by decide)
      | with_reducible refine jvA_13 ?_
      | decide
      | with_reducible exact nz_nle (by assumption)
end IVT
