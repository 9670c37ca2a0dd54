section IVT
variable {F : gF} {nf : Nat}
theorem jv_rb_Model_regionAt (hF : jvF F) (T : gSt) (p1 : Int32) (h : I78 T) : jv (rb_Model_regionAt F nf T p1) := by
    unfold rb_Model_regionAt
    repeat' first
      | with_reducible exact jv_none
      | with_reducible refine jv_some ?_
      | with_reducible refine jv_ite (fun _ => ?_) (fun _ => ?_)
      | with_reducible refine jv_gd ?_
      | with_reducible refine jv_stK ?_ (fun _ _ => ?_)
      | with_reducible refine jv_vK (fun _ => ?_)
      | with_reducible refine jv_lK (fun _ => ?_)
      | with_reducible refine jv_bi ?_ (fun _ _ _ _ => ?_)
      | with_reducible refine hF _ _ _ _ ?_ ?_
      | with_reducible refine jv_rj_Model_regionAt_26 hF  _ _ _ ?_
      | assumption
      | with_reducible refine i78_sI ?_ (by decide) (by decide)
      | with_reducible refine i78_sJ ?_
      | with_reducible refine i78_sA ?_ (by decide) (by decide)
      | with_reducible exact jvA_o (by decide)
      | with_reducible refine jvA_13 ?_
      | decide
      | with_reducible exact nz_nle (by assumption)
theorem jv_rb_Model_isLive (hF : jvF F) (T : gSt) (p1 : Int32) (h : I78 T) : jv (rb_Model_isLive F nf T p1) := by
    unfold rb_Model_isLive
    repeat' first
      | with_reducible exact jv_none
      | with_reducible refine jv_some ?_
      | with_reducible refine jv_ite (fun _ => ?_) (fun _ => ?_)
      | with_reducible refine jv_gd ?_
      | with_reducible refine jv_stK ?_ (fun _ _ => ?_)
      | with_reducible refine jv_vK (fun _ => ?_)
      | with_reducible refine jv_lK (fun _ => ?_)
      | with_reducible refine jv_bi ?_ (fun _ _ _ _ => ?_)
      | with_reducible refine hF _ _ _ _ ?_ ?_
      | assumption
      | with_reducible refine i78_sI ?_ (by decide) (by decide)
      | with_reducible refine i78_sJ ?_
      | with_reducible refine i78_sA ?_ (by decide) (by decide)
      | with_reducible exact jvA_o (by decide)
      | with_reducible refine jvA_13 ?_
      | decide
      | with_reducible exact nz_nle (by assumption)
theorem jv_rb_Model_liveRegionAt (hF : jvF F) (T : gSt) (p1 : Int32) (h : I78 T) : jv (rb_Model_liveRegionAt F nf T p1) := by
    unfold rb_Model_liveRegionAt
    repeat' first
      | with_reducible exact jv_none
      | with_reducible refine jv_some ?_
      | with_reducible refine jv_ite (fun _ => ?_) (fun _ => ?_)
      | with_reducible refine jv_gd ?_
      | with_reducible refine jv_stK ?_ (fun _ _ => ?_)
      | with_reducible refine jv_vK (fun _ => ?_)
      | with_reducible refine jv_lK (fun _ => ?_)
      | with_reducible refine jv_bi ?_ (fun _ _ _ _ => ?_)
      | with_reducible refine hF _ _ _ _ ?_ ?_
      | assumption
      | with_reducible refine i78_sI ?_ (by decide) (by decide)
      | with_reducible refine i78_sJ ?_
      | with_reducible refine i78_sA ?_ (by decide) (by decide)
      | with_reducible exact jvA_o (by decide)
      | with_reducible refine jvA_13 ?_
      | decide
      | with_reducible exact nz_nle (by assumption)
theorem jv_rl_Model_withAt_5 (hF : jvF F) : ∀ (n : Nat) (T : gSt) (x0 : Int32) (x1 : Int32) (x2 : Int32) (x3 : Int32), I78 T → jv (rl_Model_withAt_5 F nf n T x0 x1 x2 x3) := by
  intro n
  induction n with
  | zero =>
    intro T x0 x1 x2 x3 h
    rw [rl_Model_withAt_5]
    exact jv_none
  | succ n ih =>
    intro T x0 x1 x2 x3 h
    rw [rl_Model_withAt_5]
    repeat' first
      | with_reducible exact jv_none
      | with_reducible refine jv_some ?_
      | with_reducible refine jv_ite (fun _ => ?_) (fun _ => ?_)
      | with_reducible refine jv_gd ?_
      | with_reducible refine jv_stK ?_ (fun _ _ => ?_)
      | with_reducible refine jv_vK (fun _ => ?_)
      | with_reducible refine jv_lK (fun _ => ?_)
      | with_reducible refine jv_bi ?_ (fun _ _ _ _ => ?_)
      | with_reducible refine hF _ _ _ _ ?_ ?_
      | with_reducible refine ih _ _ _ _ _ ?_
      | assumption
      | with_reducible refine i78_sI ?_ (by decide) (by decide)
      | with_reducible refine i78_sJ ?_
      | with_reducible refine i78_sA ?_ (by decide) (by decide)
      | with_reducible exact jvA_o (by decide)
      | with_reducible refine jvA_13 ?_
      | decide
      | with_reducible exact nz_nle (by assumption)
theorem jv_rb_Model_withAt (hF : jvF F) (T : gSt) (p1 : Int32) (p2 : Int32) (h : I78 T) : jv (rb_Model_withAt F nf T p1 p2) := by
    unfold rb_Model_withAt
    repeat' first
      | with_reducible exact jv_none
      | with_reducible refine jv_some ?_
      | with_reducible refine jv_ite (fun _ => ?_) (fun _ => ?_)
      | with_reducible refine jv_gd ?_
      | with_reducible refine jv_stK ?_ (fun _ _ => ?_)
      | with_reducible refine jv_vK (fun _ => ?_)
      | with_reducible refine jv_lK (fun _ => ?_)
      | with_reducible refine jv_bi ?_ (fun _ _ _ _ => ?_)
      | with_reducible refine hF _ _ _ _ ?_ ?_
      | with_reducible refine jv_rl_Model_withAt_5 hF  _ _ _ _ _ _ ?_
      | assumption
      | with_reducible refine i78_sI ?_ (by decide) (by decide)
      | with_reducible refine i78_sJ ?_
      | with_reducible refine i78_sA ?_ (by decide) (by decide)
      | with_reducible exact jvA_o (by decide)
      | with_reducible refine jvA_13 ?_
      | decide
      | with_reducible exact nz_nle (by assumption)
theorem jv_rj_Model_meaning_140 (hF : jvF F) (T : gSt) (x1 : Int32) (x2 : Int32) (x3 : Int32) (h : I78 T) : jv (rj_Model_meaning_140 F nf T x1 x2 x3) := by
    unfold rj_Model_meaning_140
    repeat' first
      | with_reducible exact jv_none
      | with_reducible refine jv_some ?_
      | with_reducible refine jv_ite (fun _ => ?_) (fun _ => ?_)
      | with_reducible refine jv_gd ?_
      | with_reducible refine jv_stK ?_ (fun _ _ => ?_)
      | with_reducible refine jv_vK (fun _ => ?_)
      | with_reducible refine jv_lK (fun _ => ?_)
      | with_reducible refine jv_bi ?_ (fun _ _ _ _ => ?_)
      | with_reducible refine hF _ _ _ _ ?_ ?_
      | assumption
      | with_reducible refine i78_sI ?_ (by decide) (by decide)
      | with_reducible refine i78_sJ ?_
      | with_reducible refine i78_sA ?_ (by decide) (by decide)
      | with_reducible exact jvA_o (by decide)
      | with_reducible refine jvA_13 ?_
      | decide
      | with_reducible exact nz_nle (by assumption)
theorem jv_rb_Model_meaning (hF : jvF F) (T : gSt) (p1 : Int32) (h : I78 T) : jv (rb_Model_meaning F nf T p1) := by
    unfold rb_Model_meaning
    repeat' first
      | with_reducible exact jv_none
      | with_reducible refine jv_some ?_
      | with_reducible refine jv_ite (fun _ => ?_) (fun _ => ?_)
      | with_reducible refine jv_gd ?_
      | with_reducible refine jv_stK ?_ (fun _ _ => ?_)
      | with_reducible refine jv_vK (fun _ => ?_)
      | with_reducible refine jv_lK (fun _ => ?_)
      | with_reducible refine jv_bi ?_ (fun _ _ _ _ => ?_)
      | with_reducible refine hF _ _ _ _ ?_ ?_
      | with_reducible refine jv_rj_Model_meaning_140 hF  _ _ _ _ ?_
      | assumption
      | with_reducible refine i78_sI ?_ (by decide) (by decide)
      | with_reducible refine i78_sJ ?_
      | with_reducible refine i78_sA ?_ (by decide) (by decide)
      | with_reducible exact jvA_o (by decide)
      | with_reducible refine jvA_13 ?_
      | decide
      | with_reducible exact nz_nle (by assumption)
theorem jv_rl_Model_doesOutlive_76 (hF : jvF F) : ∀ (n : Nat) (T : gSt) (x0 : Int32) (x1 : Int32), I78 T → jv (rl_Model_doesOutlive_76 F nf n T x0 x1) := by
  intro n
  induction n with
  | zero =>
    intro T x0 x1 h
    rw [rl_Model_doesOutlive_76]
    exact jv_none
  | succ n ih =>
    intro T x0 x1 h
    rw [rl_Model_doesOutlive_76]
    repeat' first
      | with_reducible exact jv_none
      | with_reducible refine jv_some ?_
      | with_reducible refine jv_ite (fun _ => ?_) (fun _ => ?_)
      | with_reducible refine jv_gd ?_
      | with_reducible refine jv_stK ?_ (fun _ _ => ?_)
      | with_reducible refine jv_vK (fun _ => ?_)
      | with_reducible refine jv_lK (fun _ => ?_)
      | with_reducible refine jv_bi ?_ (fun _ _ _ _ => ?_)
      | with_reducible refine hF _ _ _ _ ?_ ?_
      | with_reducible refine ih _ _ _ ?_
      | assumption
      | with_reducible refine i78_sI ?_ (by decide) (by decide)
      | with_reducible refine i78_sJ ?_
      | with_reducible refine i78_sA ?_ (by decide) (by decide)
      | with_reducible exact jvA_o (by decide)
      | with_reducible refine jvA_13 ?_
      | decide
      | with_reducible exact nz_nle (by assumption)
theorem jv_rj_Model_doesOutlive_47 (hF : jvF F) (T : gSt) (x1 : Int32) (x2 : Int32) (h : I78 T) : jv (rj_Model_doesOutlive_47 F nf T x1 x2) := by
    unfold rj_Model_doesOutlive_47
    repeat' first
      | with_reducible exact jv_none
      | with_reducible refine jv_some ?_
      | with_reducible refine jv_ite (fun _ => ?_) (fun _ => ?_)
      | with_reducible refine jv_gd ?_
      | with_reducible refine jv_stK ?_ (fun _ _ => ?_)
      | with_reducible refine jv_vK (fun _ => ?_)
      | with_reducible refine jv_lK (fun _ => ?_)
      | with_reducible refine jv_bi ?_ (fun _ _ _ _ => ?_)
      | with_reducible refine hF _ _ _ _ ?_ ?_
      | with_reducible refine jv_rl_Model_doesOutlive_76 hF  _ _ _ _ ?_
      | assumption
      | with_reducible refine i78_sI ?_ (by decide) (by decide)
      | with_reducible refine i78_sJ ?_
      | with_reducible refine i78_sA ?_ (by decide) (by decide)
      | with_reducible exact jvA_o (by decide)
      | with_reducible refine jvA_13 ?_
      | decide
      | with_reducible exact nz_nle (by assumption)
theorem jv_rb_Model_doesOutlive (hF : jvF F) (T : gSt) (p1 : Int32) (p2 : Int32) (h : I78 T) : jv (rb_Model_doesOutlive F nf T p1 p2) := by
    unfold rb_Model_doesOutlive
    repeat' first
      | with_reducible exact jv_none
      | with_reducible refine jv_some ?_
      | with_reducible refine jv_ite (fun _ => ?_) (fun _ => ?_)
      | with_reducible refine jv_gd ?_
      | with_reducible refine jv_stK ?_ (fun _ _ => ?_)
      | with_reducible refine jv_vK (fun _ => ?_)
      | with_reducible refine jv_lK (fun _ => ?_)
      | with_reducible refine jv_bi ?_ (fun _ _ _ _ => ?_)
      | with_reducible refine hF _ _ _ _ ?_ ?_
      | with_reducible refine jv_rj_Model_doesOutlive_47 hF  _ _ _ ?_
      | assumption
      | with_reducible refine i78_sI ?_ (by decide) (by decide)
      | with_reducible refine i78_sJ ?_
      | with_reducible refine i78_sA ?_ (by decide) (by decide)
      | with_reducible exact jvA_o (by decide)
      | with_reducible refine jvA_13 ?_
      | decide
      | with_reducible exact nz_nle (by assumption)
theorem jv_rj_Model_misfit_88 (hF : jvF F) (T : gSt) (x1 : Int32) (x2 : Int32) (y0 : Int32) (h : I78 T) : jv (rj_Model_misfit_88 F nf T x1 x2 y0) := by
    unfold rj_Model_misfit_88
    repeat' first
      | with_reducible exact jv_none
      | with_reducible refine jv_some ?_
      | with_reducible refine jv_ite (fun _ => ?_) (fun _ => ?_)
      | with_reducible refine jv_gd ?_
      | with_reducible refine jv_stK ?_ (fun _ _ => ?_)
      | with_reducible refine jv_vK (fun _ => ?_)
      | with_reducible refine jv_lK (fun _ => ?_)
      | with_reducible refine jv_bi ?_ (fun _ _ _ _ => ?_)
      | with_reducible refine hF _ _ _ _ ?_ ?_
      | assumption
      | with_reducible refine i78_sI ?_ (by decide) (by decide)
      | with_reducible refine i78_sJ ?_
      | with_reducible refine i78_sA ?_ (by decide) (by decide)
      | with_reducible exact jvA_o (by decide)
      | with_reducible refine jvA_13 ?_
      | decide
      | with_reducible exact nz_nle (by assumption)
theorem jv_rb_Model_misfit (hF : jvF F) (T : gSt) (p1 : Int32) (p2 : Int32) (h : I78 T) : jv (rb_Model_misfit F nf T p1 p2) := by
    unfold rb_Model_misfit
    repeat' first
      | with_reducible exact jv_none
      | with_reducible refine jv_some ?_
      | with_reducible refine jv_ite (fun _ => ?_) (fun _ => ?_)
      | with_reducible refine jv_gd ?_
      | with_reducible refine jv_stK ?_ (fun _ _ => ?_)
      | with_reducible refine jv_vK (fun _ => ?_)
      | with_reducible refine jv_lK (fun _ => ?_)
      | with_reducible refine jv_bi ?_ (fun _ _ _ _ => ?_)
      | with_reducible refine hF _ _ _ _ ?_ ?_
      | with_reducible refine jv_rj_Model_misfit_88 hF  _ _ _ _ ?_
      | assumption
      | with_reducible refine i78_sI ?_ (by decide) (by decide)
      | with_reducible refine i78_sJ ?_
      | with_reducible refine i78_sA ?_ (by decide) (by decide)
      | with_reducible exact jvA_o (by decide)
      | with_reducible refine jvA_13 ?_
      | decide
      | with_reducible exact nz_nle (by assumption)
theorem jv_rb_Model_fit (hF : jvF F) (T : gSt) (p1 : Int32) (p2 : Int32) (p3 : Int32) (h : I78 T) : jv (rb_Model_fit F nf T p1 p2 p3) := by
    unfold rb_Model_fit
    repeat' first
      | with_reducible exact jv_none
      | with_reducible refine jv_some ?_
      | with_reducible refine jv_ite (fun _ => ?_) (fun _ => ?_)
      | with_reducible refine jv_gd ?_
      | with_reducible refine jv_stK ?_ (fun _ _ => ?_)
      | with_reducible refine jv_vK (fun _ => ?_)
      | with_reducible refine jv_lK (fun _ => ?_)
      | with_reducible refine jv_bi ?_ (fun _ _ _ _ => ?_)
      | with_reducible refine hF _ _ _ _ ?_ ?_
      | assumption
      | with_reducible refine i78_sI ?_ (by decide) (by decide)
      | with_reducible refine i78_sJ ?_
      | with_reducible refine i78_sA ?_ (by decide) (by decide)
      | with_reducible exact jvA_o (by decide)
      | with_reducible refine jvA_13 ?_
      | decide
      | with_reducible exact nz_nle (by assumption)
theorem jv_rl_Model_seeRegions_7 (hF : jvF F) : ∀ (n : Nat) (T : gSt) (x0 : Int32) (x1 : Int32), I78 T → jv (rl_Model_seeRegions_7 F nf n T x0 x1) := by
  intro n
  induction n with
  | zero =>
    intro T x0 x1 h
    rw [rl_Model_seeRegions_7]
    exact jv_none
  | succ n ih =>
    intro T x0 x1 h
    rw [rl_Model_seeRegions_7]
    repeat' first
      | with_reducible exact jv_none
      | with_reducible refine jv_some ?_
      | with_reducible refine jv_ite (fun _ => ?_) (fun _ => ?_)
      | with_reducible refine jv_gd ?_
      | with_reducible refine jv_stK ?_ (fun _ _ => ?_)
      | with_reducible refine jv_vK (fun _ => ?_)
      | with_reducible refine jv_lK (fun _ => ?_)
      | with_reducible refine jv_bi ?_ (fun _ _ _ _ => ?_)
      | with_reducible refine hF _ _ _ _ ?_ ?_
      | with_reducible refine ih _ _ _ ?_
      | assumption
      | with_reducible refine i78_sI ?_ (by decide) (by decide)
      | with_reducible refine i78_sJ ?_
      | with_reducible refine i78_sA ?_ (by decide) (by decide)
      | with_reducible exact jvA_o (by decide)
      | with_reducible refine jvA_13 ?_
      | decide
      | with_reducible exact nz_nle (by assumption)
theorem jv_rb_Model_seeRegions (hF : jvF F) (T : gSt) (p1 : Int32) (h : I78 T) : jv (rb_Model_seeRegions F nf T p1) := by
    unfold rb_Model_seeRegions
    repeat' first
      | with_reducible exact jv_none
      | with_reducible refine jv_some ?_
      | with_reducible refine jv_ite (fun _ => ?_) (fun _ => ?_)
      | with_reducible refine jv_gd ?_
      | with_reducible refine jv_stK ?_ (fun _ _ => ?_)
      | with_reducible refine jv_vK (fun _ => ?_)
      | with_reducible refine jv_lK (fun _ => ?_)
      | with_reducible refine jv_bi ?_ (fun _ _ _ _ => ?_)
      | with_reducible refine hF _ _ _ _ ?_ ?_
      | with_reducible refine jv_rl_Model_seeRegions_7 hF  _ _ _ _ ?_
      | assumption
      | with_reducible refine i78_sI ?_ (by decide) (by decide)
      | with_reducible refine i78_sJ ?_
      | with_reducible refine i78_sA ?_ (by decide) (by decide)
      | with_reducible exact jvA_o (by decide)
      | with_reducible refine jvA_13 ?_
      | decide
      | with_reducible exact nz_nle (by assumption)
theorem jv_rl_Model_regionOfItem_3 (hF : jvF F) : ∀ (n : Nat) (T : gSt) (x0 : Int32) (x1 : Int64) (x2 : Int32), I78 T → jv (rl_Model_regionOfItem_3 F nf n T x0 x1 x2) := by
  intro n
  induction n with
  | zero =>
    intro T x0 x1 x2 h
    rw [rl_Model_regionOfItem_3]
    exact jv_none
  | succ n ih =>
    intro T x0 x1 x2 h
    rw [rl_Model_regionOfItem_3]
    repeat' first
      | with_reducible exact jv_none
      | with_reducible refine jv_some ?_
      | with_reducible refine jv_ite (fun _ => ?_) (fun _ => ?_)
      | with_reducible refine jv_gd ?_
      | with_reducible refine jv_stK ?_ (fun _ _ => ?_)
      | with_reducible refine jv_vK (fun _ => ?_)
      | with_reducible refine jv_lK (fun _ => ?_)
      | with_reducible refine jv_bi ?_ (fun _ _ _ _ => ?_)
      | with_reducible refine hF _ _ _ _ ?_ ?_
      | with_reducible refine ih _ _ _ _ ?_
      | assumption
      | with_reducible refine i78_sI ?_ (by decide) (by decide)
      | with_reducible refine i78_sJ ?_
      | with_reducible refine i78_sA ?_ (by decide) (by decide)
      | with_reducible exact jvA_o (by decide)
      | with_reducible refine jvA_13 ?_
      | decide
      | with_reducible exact nz_nle (by assumption)
theorem jv_rb_Model_regionOfItem (hF : jvF F) (T : gSt) (p1 : Int32) (p2 : Int64) (h : I78 T) : jv (rb_Model_regionOfItem F nf T p1 p2) := by
    unfold rb_Model_regionOfItem
    repeat' first
      | with_reducible exact jv_none
      | with_reducible refine jv_some ?_
      | with_reducible refine jv_ite (fun _ => ?_) (fun _ => ?_)
      | with_reducible refine jv_gd ?_
      | with_reducible refine jv_stK ?_ (fun _ _ => ?_)
      | with_reducible refine jv_vK (fun _ => ?_)
      | with_reducible refine jv_lK (fun _ => ?_)
      | with_reducible refine jv_bi ?_ (fun _ _ _ _ => ?_)
      | with_reducible refine hF _ _ _ _ ?_ ?_
      | with_reducible refine jv_rl_Model_regionOfItem_3 hF  _ _ _ _ _ ?_
      | assumption
      | with_reducible refine i78_sI ?_ (by decide) (by decide)
      | with_reducible refine i78_sJ ?_
      | with_reducible refine i78_sA ?_ (by decide) (by decide)
      | with_reducible exact jvA_o (by decide)
      | with_reducible refine jvA_13 ?_
      | decide
      | with_reducible exact nz_nle (by assumption)
theorem jv_rl_Model_checkHead_417 (hF : jvF F) : ∀ (n : Nat) (T : gSt) (x0 : Int32) (x1 : Int32), I78 T → jv (rl_Model_checkHead_417 F nf n T x0 x1) := by
  intro n
  induction n with
  | zero =>
    intro T x0 x1 h
    rw [rl_Model_checkHead_417]
    exact jv_none
  | succ n ih =>
    intro T x0 x1 h
    rw [rl_Model_checkHead_417]
    repeat' first
      | with_reducible exact jv_none
      | with_reducible refine jv_some ?_
      | with_reducible refine jv_ite (fun _ => ?_) (fun _ => ?_)
      | with_reducible refine jv_gd ?_
      | with_reducible refine jv_stK ?_ (fun _ _ => ?_)
      | with_reducible refine jv_vK (fun _ => ?_)
      | with_reducible refine jv_lK (fun _ => ?_)
      | with_reducible refine jv_bi ?_ (fun _ _ _ _ => ?_)
      | with_reducible refine hF _ _ _ _ ?_ ?_
      | with_reducible refine ih _ _ _ ?_
      | assumption
      | with_reducible refine i78_sI ?_ (by decide) (by decide)
      | with_reducible refine i78_sJ ?_
      | with_reducible refine i78_sA ?_ (by decide) (by decide)
      | with_reducible exact jvA_o (by decide)
      | with_reducible refine jvA_13 ?_
      | decide
      | with_reducible exact nz_nle (by assumption)
theorem jv_rl_Model_checkHead_306 (hF : jvF F) : ∀ (n : Nat) (T : gSt) (x0 : Int32) (x1 : Int32), I78 T → jv (rl_Model_checkHead_306 F nf n T x0 x1) := by
  intro n
  induction n with
  | zero =>
    intro T x0 x1 h
    rw [rl_Model_checkHead_306]
    exact jv_none
  | succ n ih =>
    intro T x0 x1 h
    rw [rl_Model_checkHead_306]
    repeat' first
      | with_reducible exact jv_none
      | with_reducible refine jv_some ?_
      | with_reducible refine jv_ite (fun _ => ?_) (fun _ => ?_)
      | with_reducible refine jv_gd ?_
      | with_reducible refine jv_stK ?_ (fun _ _ => ?_)
      | with_reducible refine jv_vK (fun _ => ?_)
      | with_reducible refine jv_lK (fun _ => ?_)
      | with_reducible refine jv_bi ?_ (fun _ _ _ _ => ?_)
      | with_reducible refine hF _ _ _ _ ?_ ?_
      | with_reducible refine jv_rl_Model_checkHead_417 hF  _ _ _ _ ?_
      | with_reducible refine ih _ _ _ ?_
      | assumption
      | with_reducible refine i78_sI ?_ (by decide) (by decide)
      | with_reducible refine i78_sJ ?_
      | with_reducible refine i78_sA ?_ (by decide) (by decide)
      | with_reducible exact jvA_o (by decide)
      | with_reducible refine jvA_13 ?_
      | decide
      | with_reducible exact nz_nle (by assumption)
theorem jv_rj_Model_checkHead_257 (hF : jvF F) (T : gSt) (x1 : Int32) (h : I78 T) : jv (rj_Model_checkHead_257 F nf T x1) := by
    unfold rj_Model_checkHead_257
    repeat' first
      | with_reducible exact jv_none
      | with_reducible refine jv_some ?_
      | with_reducible refine jv_ite (fun _ => ?_) (fun _ => ?_)
      | with_reducible refine jv_gd ?_
      | with_reducible refine jv_stK ?_ (fun _ _ => ?_)
      | with_reducible refine jv_vK (fun _ => ?_)
      | with_reducible refine jv_lK (fun _ => ?_)
      | with_reducible refine jv_bi ?_ (fun _ _ _ _ => ?_)
      | with_reducible refine hF _ _ _ _ ?_ ?_
      | with_reducible refine jv_rl_Model_checkHead_306 hF  _ _ _ _ ?_
      | assumption
      | with_reducible refine i78_sI ?_ (by decide) (by decide)
      | with_reducible refine i78_sJ ?_
      | with_reducible refine i78_sA ?_ (by decide) (by decide)
      | with_reducible exact jvA_o (by decide)
      | with_reducible refine jvA_13 ?_
      | decide
      | with_reducible exact nz_nle (by assumption)
theorem jv_rl_Model_checkHead_178 (hF : jvF F) : ∀ (n : Nat) (T : gSt) (x0 : Int32) (x1 : Int32), I78 T → jv (rl_Model_checkHead_178 F nf n T x0 x1) := by
  intro n
  induction n with
  | zero =>
    intro T x0 x1 h
    rw [rl_Model_checkHead_178]
    exact jv_none
  | succ n ih =>
    intro T x0 x1 h
    rw [rl_Model_checkHead_178]
    repeat' first
      | with_reducible exact jv_none
      | with_reducible refine jv_some ?_
      | with_reducible refine jv_ite (fun _ => ?_) (fun _ => ?_)
      | with_reducible refine jv_gd ?_
      | with_reducible refine jv_stK ?_ (fun _ _ => ?_)
      | with_reducible refine jv_vK (fun _ => ?_)
      | with_reducible refine jv_lK (fun _ => ?_)
      | with_reducible refine jv_bi ?_ (fun _ _ _ _ => ?_)
      | with_reducible refine hF _ _ _ _ ?_ ?_
      | with_reducible refine jv_rj_Model_checkHead_257 hF  _ _ ?_
      | with_reducible refine ih _ _ _ ?_
      | assumption
      | with_reducible refine i78_sI ?_ (by decide) (by decide)
      | with_reducible refine i78_sJ ?_
      | with_reducible refine i78_sA ?_ (by decide) (by decide)
      | with_reducible exact jvA_o (by decide)
      | with_reducible refine jvA_13 ?_
      | decide
      | with_reducible exact nz_nle (by assumption)
theorem jv_rl_Model_checkHead_96 (hF : jvF F) {rec_52 : gSt → Int32 → Int32 → gR} (hrec_52 : ∀ T a0 a1, I78 T → jv (rec_52 T a0 a1)) : ∀ (n : Nat) (T : gSt) (x0 : Int32) (x1 : Int32) (x2 : Int32) (x3 : Int32), I78 T → jv (rl_Model_checkHead_96 F nf rec_52 n T x0 x1 x2 x3) := by
  intro n
  induction n with
  | zero =>
    intro T x0 x1 x2 x3 h
    rw [rl_Model_checkHead_96]
    exact jv_none
  | succ n ih =>
    intro T x0 x1 x2 x3 h
    rw [rl_Model_checkHead_96]
    repeat' first
      | with_reducible exact jv_none
      | with_reducible refine jv_some ?_
      | with_reducible refine jv_ite (fun _ => ?_) (fun _ => ?_)
      | with_reducible refine jv_gd ?_
      | with_reducible refine jv_stK ?_ (fun _ _ => ?_)
      | with_reducible refine jv_vK (fun _ => ?_)
      | with_reducible refine jv_lK (fun _ => ?_)
      | with_reducible refine jv_bi ?_ (fun _ _ _ _ => ?_)
      | with_reducible refine hF _ _ _ _ ?_ ?_
      | with_reducible refine ih _ _ _ _ _ ?_
      | with_reducible refine hrec_52 _ _ _ ?_
      | assumption
      | with_reducible refine i78_sI ?_ (by decide) (by decide)
      | with_reducible refine i78_sJ ?_
      | with_reducible refine i78_sA ?_ (by decide) (by decide)
      | with_reducible exact jvA_o (by decide)
      | with_reducible refine jvA_13 ?_
      | decide
      | with_reducible exact nz_nle (by assumption)
theorem jv_rl_Model_checkHead_52 (hF : jvF F) : ∀ (n : Nat) (T : gSt) (x0 : Int32) (x1 : Int32), I78 T → jv (rl_Model_checkHead_52 F nf n T x0 x1) := by
  intro n
  induction n with
  | zero =>
    intro T x0 x1 h
    rw [rl_Model_checkHead_52]
    exact jv_none
  | succ n ih =>
    intro T x0 x1 h
    rw [rl_Model_checkHead_52]
    repeat' first
      | with_reducible exact jv_none
      | with_reducible refine jv_some ?_
      | with_reducible refine jv_ite (fun _ => ?_) (fun _ => ?_)
      | with_reducible refine jv_gd ?_
      | with_reducible refine jv_stK ?_ (fun _ _ => ?_)
      | with_reducible refine jv_vK (fun _ => ?_)
      | with_reducible refine jv_lK (fun _ => ?_)
      | with_reducible refine jv_bi ?_ (fun _ _ _ _ => ?_)
      | with_reducible refine hF _ _ _ _ ?_ ?_
      | with_reducible refine jv_rl_Model_checkHead_178 hF  _ _ _ _ ?_
      | with_reducible refine jv_rl_Model_checkHead_96 hF ?_ _ _ _ _ _ _ ?_
      | with_reducible refine ih _ _ _ ?_
      | assumption
      | with_reducible refine i78_sI ?_ (by decide) (by decide)
      | with_reducible refine i78_sJ ?_
      | with_reducible refine i78_sA ?_ (by decide) (by decide)
      | with_reducible exact jvA_o (by decide)
      | with_reducible refine jvA_13 ?_
      | decide
      | with_reducible exact nz_nle (by assumption)
theorem jv_rj_Model_checkHead_33 (hF : jvF F) (T : gSt) (x1 : Int32) (y0 : Int32) (h : I78 T) : jv (rj_Model_checkHead_33 F nf T x1 y0) := by
    unfold rj_Model_checkHead_33
    repeat' first
      | with_reducible exact jv_none
      | with_reducible refine jv_some ?_
      | with_reducible refine jv_ite (fun _ => ?_) (fun _ => ?_)
      | with_reducible refine jv_gd ?_
      | with_reducible refine jv_stK ?_ (fun _ _ => ?_)
      | with_reducible refine jv_vK (fun _ => ?_)
      | with_reducible refine jv_lK (fun _ => ?_)
      | with_reducible refine jv_bi ?_ (fun _ _ _ _ => ?_)
      | with_reducible refine hF _ _ _ _ ?_ ?_
      | with_reducible refine jv_rl_Model_checkHead_52 hF  _ _ _ _ ?_
      | assumption
      | with_reducible refine i78_sI ?_ (by decide) (by decide)
      | with_reducible refine i78_sJ ?_
      | with_reducible refine i78_sA ?_ (by decide) (by decide)
      | with_reducible exact jvA_o (by decide)
      | with_reducible refine jvA_13 ?_
      | decide
      | with_reducible exact nz_nle (by assumption)
theorem jv_rb_Model_checkHead (hF : jvF F) (T : gSt) (p1 : Int32) (h : I78 T) : jv (rb_Model_checkHead F nf T p1) := by
    unfold rb_Model_checkHead
    repeat' first
      | with_reducible exact jv_none
      | with_reducible refine jv_some ?_
      | with_reducible refine jv_ite (fun _ => ?_) (fun _ => ?_)
      | with_reducible refine jv_gd ?_
      | with_reducible refine jv_stK ?_ (fun _ _ => ?_)
      | with_reducible refine jv_vK (fun _ => ?_)
      | with_reducible refine jv_lK (fun _ => ?_)
      | with_reducible refine jv_bi ?_ (fun _ _ _ _ => ?_)
      | with_reducible refine hF _ _ _ _ ?_ ?_
      | with_reducible refine jv_rj_Model_checkHead_33 hF  _ _ _ ?_
      | assumption
      | with_reducible refine i78_sI ?_ (by decide) (by decide)
      | with_reducible refine i78_sJ ?_
      | with_reducible refine i78_sA ?_ (by decide) (by decide)
      | with_reducible exact jvA_o (by decide)
      | with_reducible refine jvA_13 ?_
      | decide
      | with_reducible exact nz_nle (by assumption)
theorem jv_rj_Model_checkHeads_33 (hF : jvF F) (T : gSt) (h : I78 T) : jv (rj_Model_checkHeads_33 F nf T) := by
    unfold rj_Model_checkHeads_33
    repeat' first
      | with_reducible exact jv_none
      | with_reducible refine jv_some ?_
      | with_reducible refine jv_ite (fun _ => ?_) (fun _ => ?_)
      | with_reducible refine jv_gd ?_
      | with_reducible refine jv_stK ?_ (fun _ _ => ?_)
      | with_reducible refine jv_vK (fun _ => ?_)
      | with_reducible refine jv_lK (fun _ => ?_)
      | with_reducible refine jv_bi ?_ (fun _ _ _ _ => ?_)
      | with_reducible refine hF _ _ _ _ ?_ ?_
      | assumption
      | with_reducible refine i78_sI ?_ (by decide) (by decide)
      | with_reducible refine i78_sJ ?_
      | with_reducible refine i78_sA ?_ (by decide) (by decide)
      | with_reducible exact jvA_o (by decide)
      | with_reducible refine jvA_13 ?_
      | decide
      | with_reducible exact nz_nle (by assumption)
theorem jv_rl_Model_checkHeads_7 (hF : jvF F) : ∀ (n : Nat) (T : gSt) (x0 : Int32), I78 T → jv (rl_Model_checkHeads_7 F nf n T x0) := by
  intro n
  induction n with
  | zero =>
    intro T x0 h
    rw [rl_Model_checkHeads_7]
    exact jv_none
  | succ n ih =>
    intro T x0 h
    rw [rl_Model_checkHeads_7]
    repeat' first
      | with_reducible exact jv_none
      | with_reducible refine jv_some ?_
      | with_reducible refine jv_ite (fun _ => ?_) (fun _ => ?_)
      | with_reducible refine jv_gd ?_
      | with_reducible refine jv_stK ?_ (fun _ _ => ?_)
      | with_reducible refine jv_vK (fun _ => ?_)
      | with_reducible refine jv_lK (fun _ => ?_)
      | with_reducible refine jv_bi ?_ (fun _ _ _ _ => ?_)
      | with_reducible refine hF _ _ _ _ ?_ ?_
      | with_reducible refine jv_rj_Model_checkHeads_33 hF  _  ?_
      | with_reducible refine ih _ _ ?_
      | assumption
      | with_reducible refine i78_sI ?_ (by decide) (by decide)
      | with_reducible refine i78_sJ ?_
      | with_reducible refine i78_sA ?_ (by decide) (by decide)
      | with_reducible exact jvA_o (by decide)
      | with_reducible refine jvA_13 ?_
      | decide
      | with_reducible exact nz_nle (by assumption)
theorem jv_rb_Model_checkHeads (hF : jvF F) (T : gSt) (h : I78 T) : jv (rb_Model_checkHeads F nf T) := by
    unfold rb_Model_checkHeads
    repeat' first
      | with_reducible exact jv_none
      | with_reducible refine jv_some ?_
      | with_reducible refine jv_ite (fun _ => ?_) (fun _ => ?_)
      | with_reducible refine jv_gd ?_
      | with_reducible refine jv_stK ?_ (fun _ _ => ?_)
      | with_reducible refine jv_vK (fun _ => ?_)
      | with_reducible refine jv_lK (fun _ => ?_)
      | with_reducible refine jv_bi ?_ (fun _ _ _ _ => ?_)
      | with_reducible refine hF _ _ _ _ ?_ ?_
      | with_reducible refine jv_rl_Model_checkHeads_7 hF  _ _ _ ?_
      | assumption
      | with_reducible refine i78_sI ?_ (by decide) (by decide)
      | with_reducible refine i78_sJ ?_
      | with_reducible refine i78_sA ?_ (by decide) (by decide)
      | with_reducible exact jvA_o (by decide)
      | with_reducible refine jvA_13 ?_
      | decide
      | with_reducible exact nz_nle (by assumption)
theorem jv_rl_Model_checkFun_232 (hF : jvF F) : ∀ (n : Nat) (T : gSt) (x0 : Int32) (x1 : Int32), I78 T → jv (rl_Model_checkFun_232 F nf n T x0 x1) := by
  intro n
  induction n with
  | zero =>
    intro T x0 x1 h
    rw [rl_Model_checkFun_232]
    exact jv_none
  | succ n ih =>
    intro T x0 x1 h
    rw [rl_Model_checkFun_232]
    repeat' first
      | with_reducible exact jv_none
      | with_reducible refine jv_some ?_
      | with_reducible refine jv_ite (fun _ => ?_) (fun _ => ?_)
      | with_reducible refine jv_gd ?_
      | with_reducible refine jv_stK ?_ (fun _ _ => ?_)
      | with_reducible refine jv_vK (fun _ => ?_)
      | with_reducible refine jv_lK (fun _ => ?_)
      | with_reducible refine jv_bi ?_ (fun _ _ _ _ => ?_)
      | with_reducible refine hF _ _ _ _ ?_ ?_
      | with_reducible refine ih _ _ _ ?_
      | assumption
      | with_reducible refine i78_sI ?_ (by decide) (by decide)
      | with_reducible refine i78_sJ ?_
      | with_reducible refine i78_sA ?_ (by decide) (by decide)
      | with_reducible exact jvA_o (by decide)
      | with_reducible refine jvA_13 ?_
      | decide
      | with_reducible exact nz_nle (by assumption)
theorem jv_rl_Model_checkFun_126 (hF : jvF F) {rec_111 : gSt → Int32 → Int32 → gR} {rec_118 : gSt → Int32 → Int32 → Int32 → gR} (hrec_111 : ∀ T a0 a1, I78 T → jv (rec_111 T a0 a1)) (hrec_118 : ∀ T a0 a1 a2, I78 T → jv (rec_118 T a0 a1 a2)) : ∀ (n : Nat) (T : gSt) (x0 : Int32) (x1 : Int32) (x2 : Int32) (x3 : Int32), I78 T → jv (rl_Model_checkFun_126 F nf rec_111 rec_118 n T x0 x1 x2 x3) := by
  intro n
  induction n with
  | zero =>
    intro T x0 x1 x2 x3 h
    rw [rl_Model_checkFun_126]
    exact jv_none
  | succ n ih =>
    intro T x0 x1 x2 x3 h
    rw [rl_Model_checkFun_126]
    repeat' first
      | with_reducible exact jv_none
      | with_reducible refine jv_some ?_
      | with_reducible refine jv_ite (fun _ => ?_) (fun _ => ?_)
      | with_reducible refine jv_gd ?_
      | with_reducible refine jv_stK ?_ (fun _ _ => ?_)
      | with_reducible refine jv_vK (fun _ => ?_)
      | with_reducible refine jv_lK (fun _ => ?_)
      | with_reducible refine jv_bi ?_ (fun _ _ _ _ => ?_)
      | with_reducible refine hF _ _ _ _ ?_ ?_
      | with_reducible refine ih _ _ _ _ _ ?_
      | with_reducible refine hrec_111 _ _ _ ?_
      | with_reducible refine hrec_118 _ _ _ _ ?_
      | assumption
      | with_reducible refine i78_sI ?_ (by decide) (by decide)
      | with_reducible refine i78_sJ ?_
      | with_reducible refine i78_sA ?_ (by decide) (by decide)
      | with_reducible exact jvA_o (by decide)
      | with_reducible refine jvA_13 ?_
      | decide
      | with_reducible exact nz_nle (by assumption)
theorem jv_rl_Model_checkFun_118 (hF : jvF F) {rec_111 : gSt → Int32 → Int32 → gR} (hrec_111 : ∀ T a0 a1, I78 T → jv (rec_111 T a0 a1)) : ∀ (n : Nat) (T : gSt) (x0 : Int32) (x1 : Int32) (x2 : Int32), I78 T → jv (rl_Model_checkFun_118 F nf rec_111 n T x0 x1 x2) := by
  intro n
  induction n with
  | zero =>
    intro T x0 x1 x2 h
    rw [rl_Model_checkFun_118]
    exact jv_none
  | succ n ih =>
    intro T x0 x1 x2 h
    rw [rl_Model_checkFun_118]
    repeat' first
      | with_reducible exact jv_none
      | with_reducible refine jv_some ?_
      | with_reducible refine jv_ite (fun _ => ?_) (fun _ => ?_)
      | with_reducible refine jv_gd ?_
      | with_reducible refine jv_stK ?_ (fun _ _ => ?_)
      | with_reducible refine jv_vK (fun _ => ?_)
      | with_reducible refine jv_lK (fun _ => ?_)
      | with_reducible refine jv_bi ?_ (fun _ _ _ _ => ?_)
      | with_reducible refine hF _ _ _ _ ?_ ?_
      | with_reducible refine jv_rl_Model_checkFun_126 hF ?_ ?_ _ _ _ _ _ _ ?_
      | with_reducible refine ih _ _ _ _ ?_
      | with_reducible refine hrec_111 _ _ _ ?_
      | assumption
      | with_reducible refine i78_sI ?_ (by decide) (by decide)
      | with_reducible refine i78_sJ ?_
      | with_reducible refine i78_sA ?_ (by decide) (by decide)
      | with_reducible exact jvA_o (by decide)
      | with_reducible refine jvA_13 ?_
      | decide
      | with_reducible exact nz_nle (by assumption)
theorem jv_rl_Model_checkFun_111 (hF : jvF F) : ∀ (n : Nat) (T : gSt) (x0 : Int32) (x1 : Int32), I78 T → jv (rl_Model_checkFun_111 F nf n T x0 x1) := by
  intro n
  induction n with
  | zero =>
    intro T x0 x1 h
    rw [rl_Model_checkFun_111]
    exact jv_none
  | succ n ih =>
    intro T x0 x1 h
    rw [rl_Model_checkFun_111]
    repeat' first
      | with_reducible exact jv_none
      | with_reducible refine jv_some ?_
      | with_reducible refine jv_ite (fun _ => ?_) (fun _ => ?_)
      | with_reducible refine jv_gd ?_
      | with_reducible refine jv_stK ?_ (fun _ _ => ?_)
      | with_reducible refine jv_vK (fun _ => ?_)
      | with_reducible refine jv_lK (fun _ => ?_)
      | with_reducible refine jv_bi ?_ (fun _ _ _ _ => ?_)
      | with_reducible refine hF _ _ _ _ ?_ ?_
      | with_reducible refine jv_rl_Model_checkFun_118 hF ?_ _ _ _ _ _ ?_
      | with_reducible refine jv_rl_Model_checkFun_232 hF  _ _ _ _ ?_
      | with_reducible refine ih _ _ _ ?_
      | assumption
      | with_reducible refine i78_sI ?_ (by decide) (by decide)
      | with_reducible refine i78_sJ ?_
      | with_reducible refine i78_sA ?_ (by decide) (by decide)
      | with_reducible exact jvA_o (by decide)
      | with_reducible refine jvA_13 ?_
      | decide
      | with_reducible exact nz_nle (by assumption)
theorem jv_rl_Model_checkFun_41 (hF : jvF F) : ∀ (n : Nat) (T : gSt) (x0 : Int32) (x1 : Int32), I78 T → jv (rl_Model_checkFun_41 F nf n T x0 x1) := by
  intro n
  induction n with
  | zero =>
    intro T x0 x1 h
    rw [rl_Model_checkFun_41]
    exact jv_none
  | succ n ih =>
    intro T x0 x1 h
    rw [rl_Model_checkFun_41]
    repeat' first
      | with_reducible exact jv_none
      | with_reducible refine jv_some ?_
      | with_reducible refine jv_ite (fun _ => ?_) (fun _ => ?_)
      | with_reducible refine jv_gd ?_
      | with_reducible refine jv_stK ?_ (fun _ _ => ?_)
      | with_reducible refine jv_vK (fun _ => ?_)
      | with_reducible refine jv_lK (fun _ => ?_)
      | with_reducible refine jv_bi ?_ (fun _ _ _ _ => ?_)
      | with_reducible refine hF _ _ _ _ ?_ ?_
      | with_reducible refine jv_rl_Model_checkFun_111 hF  _ _ _ _ ?_
      | with_reducible refine ih _ _ _ ?_
      | assumption
      | with_reducible refine i78_sI ?_ (by decide) (by decide)
      | with_reducible refine i78_sJ ?_
      | with_reducible refine i78_sA ?_ (by decide) (by decide)
      | with_reducible exact jvA_o (by decide)
      | with_reducible refine jvA_13 ?_
      | decide
      | with_reducible exact nz_nle (by assumption)
theorem jv_rb_Model_checkFun (hF : jvF F) (T : gSt) (p1 : Int32) (h : I78 T) : jv (rb_Model_checkFun F nf T p1) := by
    unfold rb_Model_checkFun
    repeat' first
      | with_reducible exact jv_none
      | with_reducible refine jv_some ?_
      | with_reducible refine jv_ite (fun _ => ?_) (fun _ => ?_)
      | with_reducible refine jv_gd ?_
      | with_reducible refine jv_stK ?_ (fun _ _ => ?_)
      | with_reducible refine jv_vK (fun _ => ?_)
      | with_reducible refine jv_lK (fun _ => ?_)
      | with_reducible refine jv_bi ?_ (fun _ _ _ _ => ?_)
      | with_reducible refine hF _ _ _ _ ?_ ?_
      | with_reducible refine jv_rl_Model_checkFun_41 hF  _ _ _ _ ?_
      | assumption
      | with_reducible refine i78_sI ?_ (by decide) (by decide)
      | with_reducible refine i78_sJ ?_
      | with_reducible refine i78_sA ?_ (by decide) (by decide)
      | with_reducible exact jvA_o (by decide)
      | with_reducible refine jvA_13 ?_
      | decide
      | with_reducible exact nz_nle (by assumption)
theorem jv_rb_Model_see_JII (hF : jvF F) (T : gSt) (p1 : Int64) (p2 : Int32) (p3 : Int32) (h : I78 T) : jv (rb_Model_see_JII F nf T p1 p2 p3) := by
    unfold rb_Model_see_JII
    repeat' first
      | with_reducible exact jv_none
      | with_reducible refine jv_some ?_
      | with_reducible refine jv_ite (fun _ => ?_) (fun _ => ?_)
      | with_reducible refine jv_gd ?_
      | with_reducible refine jv_stK ?_ (fun _ _ => ?_)
      | with_reducible refine jv_vK (fun _ => ?_)
      | with_reducible refine jv_lK (fun _ => ?_)
      | with_reducible refine jv_bi ?_ (fun _ _ _ _ => ?_)
      | with_reducible refine hF _ _ _ _ ?_ ?_
      | assumption
      | with_reducible refine i78_sI ?_ (by decide) (by decide)
      | with_reducible refine i78_sJ ?_
      | with_reducible refine i78_sA ?_ (by decide) (by decide)
      | with_reducible exact jvA_o (by decide)
      | with_reducible refine jvA_13 ?_
      | decide
      | with_reducible exact nz_nle (by assumption)
theorem jv_rb_Model_stop (hF : jvF F) (T : gSt) (h : I78 T) : jv (rb_Model_stop F nf T) := by
    unfold rb_Model_stop
    repeat' first
      | with_reducible exact jv_none
      | with_reducible refine jv_some ?_
      | with_reducible refine jv_ite (fun _ => ?_) (fun _ => ?_)
      | with_reducible refine jv_gd ?_
      | with_reducible refine jv_stK ?_ (fun _ _ => ?_)
      | with_reducible refine jv_vK (fun _ => ?_)
      | with_reducible refine jv_lK (fun _ => ?_)
      | with_reducible refine jv_bi ?_ (fun _ _ _ _ => ?_)
      | with_reducible refine hF _ _ _ _ ?_ ?_
      | assumption
      | with_reducible refine i78_sI ?_ (by decide) (by decide)
      | with_reducible refine i78_sJ ?_
      | with_reducible refine i78_sA ?_ (by decide) (by decide)
      | with_reducible exact jvA_o (by decide)
      | with_reducible refine jvA_13 ?_
      | decide
      | with_reducible exact nz_nle (by assumption)
theorem jv_rl_Model_checkBlock_12 (hF : jvF F) : ∀ (n : Nat) (T : gSt) (x0 : Int32) (x1 : Int32), I78 T → jv (rl_Model_checkBlock_12 F nf n T x0 x1) := by
  intro n
  induction n with
  | zero =>
    intro T x0 x1 h
    rw [rl_Model_checkBlock_12]
    exact jv_none
  | succ n ih =>
    intro T x0 x1 h
    rw [rl_Model_checkBlock_12]
    repeat' first
      | with_reducible exact jv_none
      | with_reducible refine jv_some ?_
      | with_reducible refine jv_ite (fun _ => ?_) (fun _ => ?_)
      | with_reducible refine jv_gd ?_
      | with_reducible refine jv_stK ?_ (fun _ _ => ?_)
      | with_reducible refine jv_vK (fun _ => ?_)
      | with_reducible refine jv_lK (fun _ => ?_)
      | with_reducible refine jv_bi ?_ (fun _ _ _ _ => ?_)
      | with_reducible refine hF _ _ _ _ ?_ ?_
      | with_reducible refine ih _ _ _ ?_
      | assumption
      | with_reducible refine i78_sI ?_ (by decide) (by decide)
      | with_reducible refine i78_sJ ?_
      | with_reducible refine i78_sA ?_ (by decide) (by decide)
      | with_reducible exact jvA_o (by decide)
      | with_reducible refine jvA_13 ?_
      | decide
      | with_reducible exact nz_nle (by assumption)
theorem jv_rb_Model_checkBlock (hF : jvF F) (T : gSt) (p1 : Int32) (h : I78 T) : jv (rb_Model_checkBlock F nf T p1) := by
    unfold rb_Model_checkBlock
    repeat' first
      | with_reducible exact jv_none
      | with_reducible refine jv_some ?_
      | with_reducible refine jv_ite (fun _ => ?_) (fun _ => ?_)
      | with_reducible refine jv_gd ?_
      | with_reducible refine jv_stK ?_ (fun _ _ => ?_)
      | with_reducible refine jv_vK (fun _ => ?_)
      | with_reducible refine jv_lK (fun _ => ?_)
      | with_reducible refine jv_bi ?_ (fun _ _ _ _ => ?_)
      | with_reducible refine hF _ _ _ _ ?_ ?_
      | with_reducible refine jv_rl_Model_checkBlock_12 hF  _ _ _ _ ?_
      | assumption
      | with_reducible refine i78_sI ?_ (by decide) (by decide)
      | with_reducible refine i78_sJ ?_
      | with_reducible refine i78_sA ?_ (by decide) (by decide)
      | with_reducible exact jvA_o (by decide)
      | with_reducible refine jvA_13 ?_
      | decide
      | with_reducible exact nz_nle (by assumption)
theorem jv_rb_Model_needInt (hF : jvF F) (T : gSt) (p1 : Int32) (h : I78 T) : jv (rb_Model_needInt F nf T p1) := by
    unfold rb_Model_needInt
    repeat' first
      | with_reducible exact jv_none
      | with_reducible refine jv_some ?_
      | with_reducible refine jv_ite (fun _ => ?_) (fun _ => ?_)
      | with_reducible refine jv_gd ?_
      | with_reducible refine jv_stK ?_ (fun _ _ => ?_)
      | with_reducible refine jv_vK (fun _ => ?_)
      | with_reducible refine jv_lK (fun _ => ?_)
      | with_reducible refine jv_bi ?_ (fun _ _ _ _ => ?_)
      | with_reducible refine hF _ _ _ _ ?_ ?_
      | assumption
      | with_reducible refine i78_sI ?_ (by decide) (by decide)
      | with_reducible refine i78_sJ ?_
      | with_reducible refine i78_sA ?_ (by decide) (by decide)
      | with_reducible exact jvA_o (by decide)
      | with_reducible refine jvA_13 ?_
      | decide
      | with_reducible exact nz_nle (by assumption)
theorem jv_rb_Model_checkStep (hF : jvF F) (T : gSt) (p1 : Int32) (h : I78 T) : jv (rb_Model_checkStep F nf T p1) := by
    unfold rb_Model_checkStep
    repeat' first
      | with_reducible exact jv_none
      | with_reducible refine jv_some ?_
      | with_reducible refine jv_ite (fun _ => ?_) (fun _ => ?_)
      | with_reducible refine jv_gd ?_
      | with_reducible refine jv_stK ?_ (fun _ _ => ?_)
      | with_reducible refine jv_vK (fun _ => ?_)
      | with_reducible refine jv_lK (fun _ => ?_)
      | with_reducible refine jv_bi ?_ (fun _ _ _ _ => ?_)
      | with_reducible refine hF _ _ _ _ ?_ ?_
      | assumption
      | with_reducible refine i78_sI ?_ (by decide) (by decide)
      | with_reducible refine i78_sJ ?_
      | with_reducible refine i78_sA ?_ (by decide) (by decide)
      | with_reducible exact jvA_o (by decide)
      | with_reducible refine jvA_13 ?_
      | decide
      | with_reducible exact nz_nle (by assumption)
theorem jv_rj_Model_checkVar_122 (hF : jvF F) (T : gSt) (x1 : Int32) (x2 : Int32) (x3 : Int32) (h : I78 T) : jv (rj_Model_checkVar_122 F nf T x1 x2 x3) := by
    unfold rj_Model_checkVar_122
    repeat' first
      | with_reducible exact jv_none
      | with_reducible refine jv_some ?_
      | with_reducible refine jv_ite (fun _ => ?_) (fun _ => ?_)
      | with_reducible refine jv_gd ?_
      | with_reducible refine jv_stK ?_ (fun _ _ => ?_)
      | with_reducible refine jv_vK (fun _ => ?_)
      | with_reducible refine jv_lK (fun _ => ?_)
      | with_reducible refine jv_bi ?_ (fun _ _ _ _ => ?_)
      | with_reducible refine hF _ _ _ _ ?_ ?_
      | assumption
      | with_reducible refine i78_sI ?_ (by decide) (by decide)
      | with_reducible refine i78_sJ ?_
      | with_reducible refine i78_sA ?_ (by decide) (by decide)
      | with_reducible exact jvA_o (by decide)
      | with_reducible refine jvA_13 ?_
      | decide
      | with_reducible exact nz_nle (by assumption)
theorem jv_rj_Model_checkVar_91 (hF : jvF F) (T : gSt) (x1 : Int32) (x2 : Int32) (x3 : Int32) (h : I78 T) : jv (rj_Model_checkVar_91 F nf T x1 x2 x3) := by
    unfold rj_Model_checkVar_91
    repeat' first
      | with_reducible exact jv_none
      | with_reducible refine jv_some ?_
      | with_reducible refine jv_ite (fun _ => ?_) (fun _ => ?_)
      | with_reducible refine jv_gd ?_
      | with_reducible refine jv_stK ?_ (fun _ _ => ?_)
      | with_reducible refine jv_vK (fun _ => ?_)
      | with_reducible refine jv_lK (fun _ => ?_)
      | with_reducible refine jv_bi ?_ (fun _ _ _ _ => ?_)
      | with_reducible refine hF _ _ _ _ ?_ ?_
      | with_reducible refine jv_rj_Model_checkVar_122 hF  _ _ _ _ ?_
      | assumption
      | with_reducible refine i78_sI ?_ (by decide) (by decide)
      | with_reducible refine i78_sJ ?_
      | with_reducible refine i78_sA ?_ (by decide) (by decide)
      | with_reducible exact jvA_o (by decide)
      | with_reducible refine jvA_13 ?_
      | decide
      | with_reducible exact nz_nle (by assumption)
theorem jv_rj_Model_checkVar_51 (hF : jvF F) (T : gSt) (x1 : Int32) (x2 : Int32) (y0 : Int32) (h : I78 T) : jv (rj_Model_checkVar_51 F nf T x1 x2 y0) := by
    unfold rj_Model_checkVar_51
    repeat' first
      | with_reducible exact jv_none
      | with_reducible refine jv_some ?_
      | with_reducible refine jv_ite (fun _ => ?_) (fun _ => ?_)
      | with_reducible refine jv_gd ?_
      | with_reducible refine jv_stK ?_ (fun _ _ => ?_)
      | with_reducible refine jv_vK (fun _ => ?_)
      | with_reducible refine jv_lK (fun _ => ?_)
      | with_reducible refine jv_bi ?_ (fun _ _ _ _ => ?_)
      | with_reducible refine hF _ _ _ _ ?_ ?_
      | with_reducible refine jv_rj_Model_checkVar_91 hF  _ _ _ _ ?_
      | assumption
      | with_reducible refine i78_sI ?_ (by decide) (by decide)
      | with_reducible refine i78_sJ ?_
      | with_reducible refine i78_sA ?_ (by decide) (by decide)
      | with_reducible exact jvA_o (by decide)
      | with_reducible refine jvA_13 ?_
      | decide
      | with_reducible exact nz_nle (by assumption)
theorem jv_rb_Model_checkVar (hF : jvF F) (T : gSt) (p1 : Int32) (h : I78 T) : jv (rb_Model_checkVar F nf T p1) := by
    unfold rb_Model_checkVar
    repeat' first
      | with_reducible exact jv_none
      | with_reducible refine jv_some ?_
      | with_reducible refine jv_ite (fun _ => ?_) (fun _ => ?_)
      | with_reducible refine jv_gd ?_
      | with_reducible refine jv_stK ?_ (fun _ _ => ?_)
      | with_reducible refine jv_vK (fun _ => ?_)
      | with_reducible refine jv_lK (fun _ => ?_)
      | with_reducible refine jv_bi ?_ (fun _ _ _ _ => ?_)
      | with_reducible refine hF _ _ _ _ ?_ ?_
      | with_reducible refine jv_rj_Model_checkVar_51 hF  _ _ _ _ ?_
      | assumption
      | with_reducible refine i78_sI ?_ (by decide) (by decide)
      | with_reducible refine i78_sJ ?_
      | with_reducible refine i78_sA ?_ (by decide) (by decide)
      | with_reducible exact jvA_o (by decide)
      | with_reducible refine jvA_13 ?_
      | decide
      | with_reducible exact nz_nle (by assumption)
theorem jv_rj_Model_give_30 (hF : jvF F) (T : gSt) (x2 : Int32) (x3 : Int32) (x4 : Int32) (x5 : Int32) (y0 : Int32) (h : I78 T) : jv (rj_Model_give_30 F nf T x2 x3 x4 x5 y0) := by
    unfold rj_Model_give_30
    repeat' first
      | with_reducible exact jv_none
      | with_reducible refine jv_some ?_
      | with_reducible refine jv_ite (fun _ => ?_) (fun _ => ?_)
      | with_reducible refine jv_gd ?_
      | with_reducible refine jv_stK ?_ (fun _ _ => ?_)
      | with_reducible refine jv_vK (fun _ => ?_)
      | with_reducible refine jv_lK (fun _ => ?_)
      | with_reducible refine jv_bi ?_ (fun _ _ _ _ => ?_)
      | with_reducible refine hF _ _ _ _ ?_ ?_
      | assumption
      | with_reducible refine i78_sI ?_ (by decide) (by decide)
      | with_reducible refine i78_sJ ?_
      | with_reducible refine i78_sA ?_ (by decide) (by decide)
      | with_reducible exact jvA_o (by decide)
      | with_reducible refine jvA_13 ?_
      | decide
      | with_reducible exact nz_nle (by assumption)
theorem jv_rb_Model_give (hF : jvF F) (T : gSt) (p1 : Int32) (p2 : Int32) (p3 : Int32) (p4 : Int32) (h : I78 T) : jv (rb_Model_give F nf T p1 p2 p3 p4) := by
    unfold rb_Model_give
    repeat' first
      | with_reducible exact jv_none
      | with_reducible refine jv_some ?_
      | with_reducible refine jv_ite (fun _ => ?_) (fun _ => ?_)
      | with_reducible refine jv_gd ?_
      | with_reducible refine jv_stK ?_ (fun _ _ => ?_)
      | with_reducible refine jv_vK (fun _ => ?_)
      | with_reducible refine jv_lK (fun _ => ?_)
      | with_reducible refine jv_bi ?_ (fun _ _ _ _ => ?_)
      | with_reducible refine hF _ _ _ _ ?_ ?_
      | with_reducible refine jv_rj_Model_give_30 hF  _ _ _ _ _ _ ?_
      | assumption
      | with_reducible refine i78_sI ?_ (by decide) (by decide)
      | with_reducible refine i78_sJ ?_
      | with_reducible refine i78_sA ?_ (by decide) (by decide)
      | with_reducible exact jvA_o (by decide)
      | with_reducible refine jvA_13 ?_
      | decide
      | with_reducible exact nz_nle (by assumption)
theorem jv_rj_Model_checkSet_261 (hF : jvF F) (T : gSt) (x1 : Int32) (x2 : Int32) (x4 : Int32) (h : I78 T) : jv (rj_Model_checkSet_261 F nf T x1 x2 x4) := by
    unfold rj_Model_checkSet_261
    repeat' first
      | with_reducible exact jv_none
      | with_reducible refine jv_some ?_
      | with_reducible refine jv_ite (fun _ => ?_) (fun _ => ?_)
      | with_reducible refine jv_gd ?_
      | with_reducible refine jv_stK ?_ (fun _ _ => ?_)
      | with_reducible refine jv_vK (fun _ => ?_)
      | with_reducible refine jv_lK (fun _ => ?_)
      | with_reducible refine jv_bi ?_ (fun _ _ _ _ => ?_)
      | with_reducible refine hF _ _ _ _ ?_ ?_
      | assumption
      | with_reducible refine i78_sI ?_ (by decide) (by decide)
      | with_reducible refine i78_sJ ?_
      | with_reducible refine i78_sA ?_ (by decide) (by decide)
      | with_reducible exact jvA_o (by decide)
      | with_reducible refine jvA_13 ?_
      | decide
      | with_reducible exact nz_nle (by assumption)
theorem jv_rj_Model_checkSet_201 (hF : jvF F) (T : gSt) (x1 : Int32) (x2 : Int32) (x3 : Int32) (h : I78 T) : jv (rj_Model_checkSet_201 F nf T x1 x2 x3) := by
    unfold rj_Model_checkSet_201
    repeat' first
      | with_reducible exact jv_none
      | with_reducible refine jv_some ?_
      | with_reducible refine jv_ite (fun _ => ?_) (fun _ => ?_)
      | with_reducible refine jv_gd ?_
      | with_reducible refine jv_stK ?_ (fun _ _ => ?_)
      | with_reducible refine jv_vK (fun _ => ?_)
      | with_reducible refine jv_lK (fun _ => ?_)
      | with_reducible refine jv_bi ?_ (fun _ _ _ _ => ?_)
      | with_reducible refine hF _ _ _ _ ?_ ?_
      | with_reducible refine jv_rj_Model_checkSet_261 hF  _ _ _ _ ?_
      | assumption
      | with_reducible refine i78_sI ?_ (by decide) (by decide)
      | with_reducible refine i78_sJ ?_
      | with_reducible refine i78_sA ?_ (by decide) (by decide)
      | with_reducible exact jvA_o (by decide)
      | with_reducible refine jvA_13 ?_
      | decide
      | with_reducible exact nz_nle (by assumption)
theorem jv_rj_Model_checkSet_64 (hF : jvF F) (T : gSt) (x1 : Int32) (x2 : Int32) (x3 : Int32) (x4 : Int32) (h : I78 T) : jv (rj_Model_checkSet_64 F nf T x1 x2 x3 x4) := by
    unfold rj_Model_checkSet_64
    repeat' first
      | with_reducible exact jv_none
      | with_reducible refine jv_some ?_
      | with_reducible refine jv_ite (fun _ => ?_) (fun _ => ?_)
      | with_reducible refine jv_gd ?_
      | with_reducible refine jv_stK ?_ (fun _ _ => ?_)
      | with_reducible refine jv_vK (fun _ => ?_)
      | with_reducible refine jv_lK (fun _ => ?_)
      | with_reducible refine jv_bi ?_ (fun _ _ _ _ => ?_)
      | with_reducible refine hF _ _ _ _ ?_ ?_
      | assumption
      | with_reducible refine i78_sI ?_ (by decide) (by decide)
      | with_reducible refine i78_sJ ?_
      | with_reducible refine i78_sA ?_ (by decide) (by decide)
      | with_reducible exact jvA_o (by decide)
      | with_reducible refine jvA_13 ?_
      | decide
      | with_reducible exact nz_nle (by assumption)
theorem jv_rb_Model_checkSet (hF : jvF F) (T : gSt) (p1 : Int32) (h : I78 T) : jv (rb_Model_checkSet F nf T p1) := by
    unfold rb_Model_checkSet
    repeat' first
      | with_reducible exact jv_none
      | with_reducible refine jv_some ?_
      | with_reducible refine jv_ite (fun _ => ?_) (fun _ => ?_)
      | with_reducible refine jv_gd ?_
      | with_reducible refine jv_stK ?_ (fun _ _ => ?_)
      | with_reducible refine jv_vK (fun _ => ?_)
      | with_reducible refine jv_lK (fun _ => ?_)
      | with_reducible refine jv_bi ?_ (fun _ _ _ _ => ?_)
      | with_reducible refine hF _ _ _ _ ?_ ?_
      | with_reducible refine jv_rj_Model_checkSet_201 hF  _ _ _ _ ?_
      | with_reducible refine jv_rj_Model_checkSet_64 hF  _ _ _ _ _ ?_
      | assumption
      | with_reducible refine i78_sI ?_ (by decide) (by decide)
      | with_reducible refine i78_sJ ?_
      | with_reducible refine i78_sA ?_ (by decide) (by decide)
      | with_reducible exact jvA_o (by decide)
      | with_reducible refine jvA_13 ?_
      | decide
      | with_reducible exact nz_nle (by assumption)
theorem jv_rj_Model_asked_68 (hF : jvF F) (T : gSt) (x3 : Int32) (h : I78 T) : jv (rj_Model_asked_68 F nf T x3) := by
    unfold rj_Model_asked_68
    repeat' first
      | with_reducible exact jv_none
      | with_reducible refine jv_some ?_
      | with_reducible refine jv_ite (fun _ => ?_) (fun _ => ?_)
      | with_reducible refine jv_gd ?_
      | with_reducible refine jv_stK ?_ (fun _ _ => ?_)
      | with_reducible refine jv_vK (fun _ => ?_)
      | with_reducible refine jv_lK (fun _ => ?_)
      | with_reducible refine jv_bi ?_ (fun _ _ _ _ => ?_)
      | with_reducible refine hF _ _ _ _ ?_ ?_
      | assumption
      | with_reducible refine i78_sI ?_ (by decide) (by decide)
      | with_reducible refine i78_sJ ?_
      | with_reducible refine i78_sA ?_ (by decide) (by decide)
      | with_reducible exact jvA_o (by decide)
      | with_reducible refine jvA_13 ?_
      | decide
      | with_reducible exact nz_nle (by assumption)
theorem jv_rb_Model_asked (hF : jvF F) (T : gSt) (p1 : Int32) (p2 : Int32) (h : I78 T) : jv (rb_Model_asked F nf T p1 p2) := by
    unfold rb_Model_asked
    repeat' first
      | with_reducible exact jv_none
      | with_reducible refine jv_some ?_
      | with_reducible refine jv_ite (fun _ => ?_) (fun _ => ?_)
      | with_reducible refine jv_gd ?_
      | with_reducible refine jv_stK ?_ (fun _ _ => ?_)
      | with_reducible refine jv_vK (fun _ => ?_)
      | with_reducible refine jv_lK (fun _ => ?_)
      | with_reducible refine jv_bi ?_ (fun _ _ _ _ => ?_)
      | with_reducible refine hF _ _ _ _ ?_ ?_
      | with_reducible refine jv_rj_Model_asked_68 hF  _ _ ?_
      | assumption
      | with_reducible refine i78_sI ?_ (by decide) (by decide)
      | with_reducible refine i78_sJ ?_
      | with_reducible refine i78_sA ?_ (by decide) (by decide)
      | with_reducible exact jvA_o (by decide)
      | with_reducible refine jvA_13 ?_
      | decide
      | with_reducible exact nz_nle (by assumption)
theorem jv_rb_Model_knowing (hF : jvF F) (T : gSt) (p1 : Int32) (h : I78 T) : jv (rb_Model_knowing F nf T p1) := by
    unfold rb_Model_knowing
    repeat' first
      | with_reducible exact jv_none
      | with_reducible refine jv_some ?_
      | with_reducible refine jv_ite (fun _ => ?_) (fun _ => ?_)
      | with_reducible refine jv_gd ?_
      | with_reducible refine jv_stK ?_ (fun _ _ => ?_)
      | with_reducible refine jv_vK (fun _ => ?_)
      | with_reducible refine jv_lK (fun _ => ?_)
      | with_reducible refine jv_bi ?_ (fun _ _ _ _ => ?_)
      | with_reducible refine hF _ _ _ _ ?_ ?_
      | assumption
      | with_reducible refine i78_sI ?_ (by decide) (by decide)
      | with_reducible refine i78_sJ ?_
      | with_reducible refine i78_sA ?_ (by decide) (by decide)
      | with_reducible exact jvA_o (by decide)
      | with_reducible refine jvA_13 ?_
      | decide
      | with_reducible exact nz_nle (by assumption)
theorem jv_rb_Model_checkCondition (hF : jvF F) (T : gSt) (p1 : Int32) (h : I78 T) : jv (rb_Model_checkCondition F nf T p1) := by
    unfold rb_Model_checkCondition
    repeat' first
      | with_reducible exact jv_none
      | with_reducible refine jv_some ?_
      | with_reducible refine jv_ite (fun _ => ?_) (fun _ => ?_)
      | with_reducible refine jv_gd ?_
      | with_reducible refine jv_stK ?_ (fun _ _ => ?_)
      | with_reducible refine jv_vK (fun _ => ?_)
      | with_reducible refine jv_lK (fun _ => ?_)
      | with_reducible refine jv_bi ?_ (fun _ _ _ _ => ?_)
      | with_reducible refine hF _ _ _ _ ?_ ?_
      | assumption
      | with_reducible refine i78_sI ?_ (by decide) (by decide)
      | with_reducible refine i78_sJ ?_
      | with_reducible refine i78_sA ?_ (by decide) (by decide)
      | with_reducible exact jvA_o (by decide)
      | with_reducible refine jvA_13 ?_
      | decide
      | with_reducible exact nz_nle (by assumption)
theorem jv_rj_Model_checkIf_161 (hF : jvF F) (T : gSt) (x1 : Int32) (x8 : Int32) (x9 : Int32) (x10 : Int32) (x11 : Int32) (h : I78 T) : jv (rj_Model_checkIf_161 F nf T x1 x8 x9 x10 x11) := by
    unfold rj_Model_checkIf_161
    repeat' first
      | with_reducible exact jv_none
      | with_reducible refine jv_some ?_
      | with_reducible refine jv_ite (fun _ => ?_) (fun _ => ?_)
      | with_reducible refine jv_gd ?_
      | with_reducible refine jv_stK ?_ (fun _ _ => ?_)
      | with_reducible refine jv_vK (fun _ => ?_)
      | with_reducible refine jv_lK (fun _ => ?_)
      | with_reducible refine jv_bi ?_ (fun _ _ _ _ => ?_)
      | with_reducible refine hF _ _ _ _ ?_ ?_
      | assumption
      | with_reducible refine i78_sI ?_ (by decide) (by decide)
      | with_reducible refine i78_sJ ?_
      | with_reducible refine i78_sA ?_ (by decide) (by decide)
      | with_reducible exact jvA_o (by decide)
      | with_reducible refine jvA_13 ?_
      | decide
      | with_reducible exact nz_nle (by assumption)
theorem jv_rb_Model_checkIf (hF : jvF F) (T : gSt) (p1 : Int32) (h : I78 T) : jv (rb_Model_checkIf F nf T p1) := by
    unfold rb_Model_checkIf
    repeat' first
      | with_reducible exact jv_none
      | with_reducible refine jv_some ?_
      | with_reducible refine jv_ite (fun _ => ?_) (fun _ => ?_)
      | with_reducible refine jv_gd ?_
      | with_reducible refine jv_stK ?_ (fun _ _ => ?_)
      | with_reducible refine jv_vK (fun _ => ?_)
      | with_reducible refine jv_lK (fun _ => ?_)
      | with_reducible refine jv_bi ?_ (fun _ _ _ _ => ?_)
      | with_reducible refine hF _ _ _ _ ?_ ?_
      | with_reducible refine jv_rj_Model_checkIf_161 hF  _ _ _ _ _ _ ?_
      | assumption
      | with_reducible refine i78_sI ?_ (by decide) (by decide)
      | with_reducible refine i78_sJ ?_
      | with_reducible refine i78_sA ?_ (by decide) (by decide)
      | with_reducible exact jvA_o (by decide)
      | with_reducible refine jvA_13 ?_
      | decide
      | with_reducible exact nz_nle (by assumption)
theorem jv_rj_Model_meet_51 (hF : jvF F) (T : gSt) (x1 : Int32) (x2 : Int32) (x3 : Int32) (x4 : Int32) (h : I78 T) : jv (rj_Model_meet_51 F nf T x1 x2 x3 x4) := by
    unfold rj_Model_meet_51
    repeat' first
      | with_reducible exact jv_none
      | with_reducible refine jv_some ?_
      | with_reducible refine jv_ite (fun _ => ?_) (fun _ => ?_)
      | with_reducible refine jv_gd ?_
      | with_reducible refine jv_stK ?_ (fun _ _ => ?_)
      | with_reducible refine jv_vK (fun _ => ?_)
      | with_reducible refine jv_lK (fun _ => ?_)
      | with_reducible refine jv_bi ?_ (fun _ _ _ _ => ?_)
      | with_reducible refine hF _ _ _ _ ?_ ?_
      | assumption
      | with_reducible refine i78_sI ?_ (by decide) (by decide)
      | with_reducible refine i78_sJ ?_
      | with_reducible refine i78_sA ?_ (by decide) (by decide)
      | with_reducible exact jvA_o (by decide)
      | with_reducible refine jvA_13 ?_
      | decide
      | with_reducible exact nz_nle (by assumption)
theorem jv_rb_Model_meet (hF : jvF F) (T : gSt) (p1 : Int32) (p2 : Int32) (p3 : Int32) (p4 : Int32) (p5 : Int32) (h : I78 T) : jv (rb_Model_meet F nf T p1 p2 p3 p4 p5) := by
    unfold rb_Model_meet
    repeat' first
      | with_reducible exact jv_none
      | with_reducible refine jv_some ?_
      | with_reducible refine jv_ite (fun _ => ?_) (fun _ => ?_)
      | with_reducible refine jv_gd ?_
      | with_reducible refine jv_stK ?_ (fun _ _ => ?_)
      | with_reducible refine jv_vK (fun _ => ?_)
      | with_reducible refine jv_lK (fun _ => ?_)
      | with_reducible refine jv_bi ?_ (fun _ _ _ _ => ?_)
      | with_reducible refine hF _ _ _ _ ?_ ?_
      | with_reducible refine jv_rj_Model_meet_51 hF  _ _ _ _ _ ?_
      | assumption
      | with_reducible refine i78_sI ?_ (by decide) (by decide)
      | with_reducible refine i78_sJ ?_
      | with_reducible refine i78_sA ?_ (by decide) (by decide)
      | with_reducible exact jvA_o (by decide)
      | with_reducible refine jvA_13 ?_
      | decide
      | with_reducible exact nz_nle (by assumption)
theorem jv_rj_Model_given_165 (hF : jvF F) {rec_9 : gSt → Int32 → Int32 → gR} (hrec_9 : ∀ T a0 a1, I78 T → jv (rec_9 T a0 a1)) (T : gSt) (x2 : Int32) (x3 : Int32) (h : I78 T) : jv (rj_Model_given_165 F nf rec_9 T x2 x3) := by
    unfold rj_Model_given_165
    repeat' first
      | with_reducible exact jv_none
      | with_reducible refine jv_some ?_
      | with_reducible refine jv_ite (fun _ => ?_) (fun _ => ?_)
      | with_reducible refine jv_gd ?_
      | with_reducible refine jv_stK ?_ (fun _ _ => ?_)
      | with_reducible refine jv_vK (fun _ => ?_)
      | with_reducible refine jv_lK (fun _ => ?_)
      | with_reducible refine jv_bi ?_ (fun _ _ _ _ => ?_)
      | with_reducible refine hF _ _ _ _ ?_ ?_
      | with_reducible refine hrec_9 _ _ _ ?_
      | assumption
      | with_reducible refine i78_sI ?_ (by decide) (by decide)
      | with_reducible refine i78_sJ ?_
      | with_reducible refine i78_sA ?_ (by decide) (by decide)
      | with_reducible exact jvA_o (by decide)
      | with_reducible refine jvA_13 ?_
      | decide
      | with_reducible exact nz_nle (by assumption)
theorem jv_rj_Model_given_141 (hF : jvF F) {rec_9 : gSt → Int32 → Int32 → gR} (hrec_9 : ∀ T a0 a1, I78 T → jv (rec_9 T a0 a1)) (T : gSt) (x2 : Int32) (x3 : Int32) (h : I78 T) : jv (rj_Model_given_141 F nf rec_9 T x2 x3) := by
    unfold rj_Model_given_141
    repeat' first
      | with_reducible exact jv_none
      | with_reducible refine jv_some ?_
      | with_reducible refine jv_ite (fun _ => ?_) (fun _ => ?_)
      | with_reducible refine jv_gd ?_
      | with_reducible refine jv_stK ?_ (fun _ _ => ?_)
      | with_reducible refine jv_vK (fun _ => ?_)
      | with_reducible refine jv_lK (fun _ => ?_)
      | with_reducible refine jv_bi ?_ (fun _ _ _ _ => ?_)
      | with_reducible refine hF _ _ _ _ ?_ ?_
      | with_reducible refine jv_rj_Model_given_165 hF ?_ _ _ _ ?_
      | with_reducible refine hrec_9 _ _ _ ?_
      | assumption
      | with_reducible refine i78_sI ?_ (by decide) (by decide)
      | with_reducible refine i78_sJ ?_
      | with_reducible refine i78_sA ?_ (by decide) (by decide)
      | with_reducible exact jvA_o (by decide)
      | with_reducible refine jvA_13 ?_
      | decide
      | with_reducible exact nz_nle (by assumption)
theorem jv_rj_Model_given_108 (hF : jvF F) {rec_9 : gSt → Int32 → Int32 → gR} (hrec_9 : ∀ T a0 a1, I78 T → jv (rec_9 T a0 a1)) (T : gSt) (x2 : Int32) (x3 : Int32) (h : I78 T) : jv (rj_Model_given_108 F nf rec_9 T x2 x3) := by
    unfold rj_Model_given_108
    repeat' first
      | with_reducible exact jv_none
      | with_reducible refine jv_some ?_
      | with_reducible refine jv_ite (fun _ => ?_) (fun _ => ?_)
      | with_reducible refine jv_gd ?_
      | with_reducible refine jv_stK ?_ (fun _ _ => ?_)
      | with_reducible refine jv_vK (fun _ => ?_)
      | with_reducible refine jv_lK (fun _ => ?_)
      | with_reducible refine jv_bi ?_ (fun _ _ _ _ => ?_)
      | with_reducible refine hF _ _ _ _ ?_ ?_
      | with_reducible refine jv_rj_Model_given_141 hF ?_ _ _ _ ?_
      | with_reducible refine hrec_9 _ _ _ ?_
      | assumption
      | with_reducible refine i78_sI ?_ (by decide) (by decide)
      | with_reducible refine i78_sJ ?_
      | with_reducible refine i78_sA ?_ (by decide) (by decide)
      | with_reducible exact jvA_o (by decide)
      | with_reducible refine jvA_13 ?_
      | decide
      | with_reducible exact nz_nle (by assumption)
theorem jv_rj_Model_given_73 (hF : jvF F) {rec_9 : gSt → Int32 → Int32 → gR} (hrec_9 : ∀ T a0 a1, I78 T → jv (rec_9 T a0 a1)) (T : gSt) (x2 : Int32) (x3 : Int32) (h : I78 T) : jv (rj_Model_given_73 F nf rec_9 T x2 x3) := by
    unfold rj_Model_given_73
    repeat' first
      | with_reducible exact jv_none
      | with_reducible refine jv_some ?_
      | with_reducible refine jv_ite (fun _ => ?_) (fun _ => ?_)
      | with_reducible refine jv_gd ?_
      | with_reducible refine jv_stK ?_ (fun _ _ => ?_)
      | with_reducible refine jv_vK (fun _ => ?_)
      | with_reducible refine jv_lK (fun _ => ?_)
      | with_reducible refine jv_bi ?_ (fun _ _ _ _ => ?_)
      | with_reducible refine hF _ _ _ _ ?_ ?_
      | with_reducible refine jv_rj_Model_given_108 hF ?_ _ _ _ ?_
      | with_reducible refine hrec_9 _ _ _ ?_
      | assumption
      | with_reducible refine i78_sI ?_ (by decide) (by decide)
      | with_reducible refine i78_sJ ?_
      | with_reducible refine i78_sA ?_ (by decide) (by decide)
      | with_reducible exact jvA_o (by decide)
      | with_reducible refine jvA_13 ?_
      | decide
      | with_reducible exact nz_nle (by assumption)
theorem jv_rl_Model_given_9 (hF : jvF F) : ∀ (n : Nat) (T : gSt) (x0 : Int32) (x1 : Int32), I78 T → jv (rl_Model_given_9 F nf n T x0 x1) := by
  intro n
  induction n with
  | zero =>
    intro T x0 x1 h
    rw [rl_Model_given_9]
    exact jv_none
  | succ n ih =>
    intro T x0 x1 h
    rw [rl_Model_given_9]
    repeat' first
      | with_reducible exact jv_none
      | with_reducible refine jv_some ?_
      | with_reducible refine jv_ite (fun _ => ?_) (fun _ => ?_)
      | with_reducible refine jv_gd ?_
      | with_reducible refine jv_stK ?_ (fun _ _ => ?_)
      | with_reducible refine jv_vK (fun _ => ?_)
      | with_reducible refine jv_lK (fun _ => ?_)
      | with_reducible refine jv_bi ?_ (fun _ _ _ _ => ?_)
      | with_reducible refine hF _ _ _ _ ?_ ?_
      | with_reducible refine jv_rj_Model_given_73 hF ?_ _ _ _ ?_
      | with_reducible refine ih _ _ _ ?_
      | assumption
      | with_reducible refine i78_sI ?_ (by decide) (by decide)
      | with_reducible refine i78_sJ ?_
      | with_reducible refine i78_sA ?_ (by decide) (by decide)
      | with_reducible exact jvA_o (by decide)
      | with_reducible refine jvA_13 ?_
      | decide
      | with_reducible exact nz_nle (by assumption)
theorem jv_rb_Model_given (hF : jvF F) (T : gSt) (p1 : Int32) (h : I78 T) : jv (rb_Model_given F nf T p1) := by
    unfold rb_Model_given
    repeat' first
      | with_reducible exact jv_none
      | with_reducible refine jv_some ?_
      | with_reducible refine jv_ite (fun _ => ?_) (fun _ => ?_)
      | with_reducible refine jv_gd ?_
      | with_reducible refine jv_stK ?_ (fun _ _ => ?_)
      | with_reducible refine jv_vK (fun _ => ?_)
      | with_reducible refine jv_lK (fun _ => ?_)
      | with_reducible refine jv_bi ?_ (fun _ _ _ _ => ?_)
      | with_reducible refine hF _ _ _ _ ?_ ?_
      | with_reducible refine jv_rl_Model_given_9 hF  _ _ _ _ ?_
      | assumption
      | with_reducible refine i78_sI ?_ (by decide) (by decide)
      | with_reducible refine i78_sJ ?_
      | with_reducible refine i78_sA ?_ (by decide) (by decide)
      | with_reducible exact jvA_o (by decide)
      | with_reducible refine jvA_13 ?_
      | decide
      | with_reducible exact nz_nle (by assumption)
theorem jv_rj_Model_checkWhile_144 (hF : jvF F) (T : gSt) (x3 : Int32) (x4 : Int32) (x5 : Int32) (x6 : Int32) (x7 : Int32) (h : I78 T) : jv (rj_Model_checkWhile_144 F nf T x3 x4 x5 x6 x7) := by
    unfold rj_Model_checkWhile_144
    repeat' first
      | with_reducible exact jv_none
      | with_reducible refine jv_some ?_
      | with_reducible refine jv_ite (fun _ => ?_) (fun _ => ?_)
      | with_reducible refine jv_gd ?_
      | with_reducible refine jv_stK ?_ (fun _ _ => ?_)
      | with_reducible refine jv_vK (fun _ => ?_)
      | with_reducible refine jv_lK (fun _ => ?_)
      | with_reducible refine jv_bi ?_ (fun _ _ _ _ => ?_)
      | with_reducible refine hF _ _ _ _ ?_ ?_
      | assumption
      | with_reducible refine i78_sI ?_ (by decide) (by decide)
      | with_reducible refine i78_sJ ?_
      | with_reducible refine i78_sA ?_ (by decide) (by decide)
      | with_reducible exact jvA_o (by decide)
      | with_reducible refine jvA_13 ?_
      | decide
      | with_reducible exact nz_nle (by assumption)
theorem jv_rj_Model_checkWhile_28 (hF : jvF F) (T : gSt) (x1 : Int32) (h : I78 T) : jv (rj_Model_checkWhile_28 F nf T x1) := by
    unfold rj_Model_checkWhile_28
    repeat' first
      | with_reducible exact jv_none
      | with_reducible refine jv_some ?_
      | with_reducible refine jv_ite (fun _ => ?_) (fun _ => ?_)
      | with_reducible refine jv_gd ?_
      | with_reducible refine jv_stK ?_ (fun _ _ => ?_)
      | with_reducible refine jv_vK (fun _ => ?_)
      | with_reducible refine jv_lK (fun _ => ?_)
      | with_reducible refine jv_bi ?_ (fun _ _ _ _ => ?_)
      | with_reducible refine hF _ _ _ _ ?_ ?_
      | with_reducible refine jv_rj_Model_checkWhile_144 hF  _ _ _ _ _ _ ?_
      | assumption
      | with_reducible refine i78_sI ?_ (by decide) (by decide)
      | with_reducible refine i78_sJ ?_
      | with_reducible refine i78_sA ?_ (by decide) (by decide)
      | with_reducible exact jvA_o (by decide)
      | with_reducible refine jvA_13 ?_
      | decide
      | with_reducible exact nz_nle (by assumption)
theorem jv_rb_Model_checkWhile (hF : jvF F) (T : gSt) (p1 : Int32) (h : I78 T) : jv (rb_Model_checkWhile F nf T p1) := by
    unfold rb_Model_checkWhile
    repeat' first
      | with_reducible exact jv_none
      | with_reducible refine jv_some ?_
      | with_reducible refine jv_ite (fun _ => ?_) (fun _ => ?_)
      | with_reducible refine jv_gd ?_
      | with_reducible refine jv_stK ?_ (fun _ _ => ?_)
      | with_reducible refine jv_vK (fun _ => ?_)
      | with_reducible refine jv_lK (fun _ => ?_)
      | with_reducible refine jv_bi ?_ (fun _ _ _ _ => ?_)
      | with_reducible refine hF _ _ _ _ ?_ ?_
      | with_reducible refine jv_rj_Model_checkWhile_28 hF  _ _ ?_
      | assumption
      | with_reducible refine i78_sI ?_ (by decide) (by decide)
      | with_reducible refine i78_sJ ?_
      | with_reducible refine i78_sA ?_ (by decide) (by decide)
      | with_reducible exact jvA_o (by decide)
      | with_reducible refine jvA_13 ?_
      | decide
      | with_reducible exact nz_nle (by assumption)
theorem jv_rj_Model_checkReturn_46 (hF : jvF F) (T : gSt) (x1 : Int32) (h : I78 T) : jv (rj_Model_checkReturn_46 F nf T x1) := by
    unfold rj_Model_checkReturn_46
    repeat' first
      | with_reducible exact jv_none
      | with_reducible refine jv_some ?_
      | with_reducible refine jv_ite (fun _ => ?_) (fun _ => ?_)
      | with_reducible refine jv_gd ?_
      | with_reducible refine jv_stK ?_ (fun _ _ => ?_)
      | with_reducible refine jv_vK (fun _ => ?_)
      | with_reducible refine jv_lK (fun _ => ?_)
      | with_reducible refine jv_bi ?_ (fun _ _ _ _ => ?_)
      | with_reducible refine hF _ _ _ _ ?_ ?_
      | assumption
      | with_reducible refine i78_sI ?_ (by decide) (by decide)
      | with_reducible refine i78_sJ ?_
      | with_reducible refine i78_sA ?_ (by decide) (by decide)
      | with_reducible exact jvA_o (by decide)
      | with_reducible refine jvA_13 ?_
      | decide
      | with_reducible exact nz_nle (by assumption)
theorem jv_rj_Model_checkReturn_17 (hF : jvF F) (T : gSt) (x1 : Int32) (y0 : Int32) (h : I78 T) : jv (rj_Model_checkReturn_17 F nf T x1 y0) := by
    unfold rj_Model_checkReturn_17
    repeat' first
      | with_reducible exact jv_none
      | with_reducible refine jv_some ?_
      | with_reducible refine jv_ite (fun _ => ?_) (fun _ => ?_)
      | with_reducible refine jv_gd ?_
      | with_reducible refine jv_stK ?_ (fun _ _ => ?_)
      | with_reducible refine jv_vK (fun _ => ?_)
      | with_reducible refine jv_lK (fun _ => ?_)
      | with_reducible refine jv_bi ?_ (fun _ _ _ _ => ?_)
      | with_reducible refine hF _ _ _ _ ?_ ?_
      | with_reducible refine jv_rj_Model_checkReturn_46 hF  _ _ ?_
      | assumption
      | with_reducible refine i78_sI ?_ (by decide) (by decide)
      | with_reducible refine i78_sJ ?_
      | with_reducible refine i78_sA ?_ (by decide) (by decide)
      | with_reducible exact jvA_o (by decide)
      | with_reducible refine jvA_13 ?_
      | decide
      | with_reducible exact nz_nle (by assumption)
theorem jv_rb_Model_checkReturn (hF : jvF F) (T : gSt) (p1 : Int32) (h : I78 T) : jv (rb_Model_checkReturn F nf T p1) := by
    unfold rb_Model_checkReturn
    repeat' first
      | with_reducible exact jv_none
      | with_reducible refine jv_some ?_
      | with_reducible refine jv_ite (fun _ => ?_) (fun _ => ?_)
      | with_reducible refine jv_gd ?_
      | with_reducible refine jv_stK ?_ (fun _ _ => ?_)
      | with_reducible refine jv_vK (fun _ => ?_)
      | with_reducible refine jv_lK (fun _ => ?_)
      | with_reducible refine jv_bi ?_ (fun _ _ _ _ => ?_)
      | with_reducible refine hF _ _ _ _ ?_ ?_
      | with_reducible refine jv_rj_Model_checkReturn_17 hF  _ _ _ ?_
      | assumption
      | with_reducible refine i78_sI ?_ (by decide) (by decide)
      | with_reducible refine i78_sJ ?_
      | with_reducible refine i78_sA ?_ (by decide) (by decide)
      | with_reducible exact jvA_o (by decide)
      | with_reducible refine jvA_13 ?_
      | decide
      | with_reducible exact nz_nle (by assumption)
theorem jv_rl_Model_checkRegion_73 (hF : jvF F) : ∀ (n : Nat) (T : gSt) (x0 : Int32) (x1 : Int32) (x2 : Int32) (x3 : Int32), I78 T → jv (rl_Model_checkRegion_73 F nf n T x0 x1 x2 x3) := by
  intro n
  induction n with
  | zero =>
    intro T x0 x1 x2 x3 h
    rw [rl_Model_checkRegion_73]
    exact jv_none
  | succ n ih =>
    intro T x0 x1 x2 x3 h
    rw [rl_Model_checkRegion_73]
    repeat' first
      | with_reducible exact jv_none
      | with_reducible refine jv_some ?_
      | with_reducible refine jv_ite (fun _ => ?_) (fun _ => ?_)
      | with_reducible refine jv_gd ?_
      | with_reducible refine jv_stK ?_ (fun _ _ => ?_)
      | with_reducible refine jv_vK (fun _ => ?_)
      | with_reducible refine jv_lK (fun _ => ?_)
      | with_reducible refine jv_bi ?_ (fun _ _ _ _ => ?_)
      | with_reducible refine hF _ _ _ _ ?_ ?_
      | with_reducible refine ih _ _ _ _ _ ?_
      | assumption
      | with_reducible refine i78_sI ?_ (by decide) (by decide)
      | with_reducible refine i78_sJ ?_
      | with_reducible refine i78_sA ?_ (by decide) (by decide)
      | with_reducible exact jvA_o (by decide)
      | with_reducible refine jvA_13 ?_
      | decide
      | with_reducible exact nz_nle (by assumption)
theorem jv_rj_Model_checkRegion_31 (hF : jvF F) (T : gSt) (x1 : Int32) (x2 : Int32) (h : I78 T) : jv (rj_Model_checkRegion_31 F nf T x1 x2) := by
    unfold rj_Model_checkRegion_31
    repeat' first
      | with_reducible exact jv_none
      | with_reducible refine jv_some ?_
      | with_reducible refine jv_ite (fun _ => ?_) (fun _ => ?_)
      | with_reducible refine jv_gd ?_
      | with_reducible refine jv_stK ?_ (fun _ _ => ?_)
      | with_reducible refine jv_vK (fun _ => ?_)
      | with_reducible refine jv_lK (fun _ => ?_)
      | with_reducible refine jv_bi ?_ (fun _ _ _ _ => ?_)
      | with_reducible refine hF _ _ _ _ ?_ ?_
      | with_reducible refine jv_rl_Model_checkRegion_73 hF  _ _ _ _ _ _ ?_
      | assumption
      | with_reducible refine i78_sI ?_ (by decide) (by decide)
      | with_reducible refine i78_sJ ?_
      | with_reducible refine i78_sA ?_ (by decide) (by decide)
      | with_reducible exact jvA_o (by decide)
      | with_reducible refine jvA_13 ?_
      | decide
      | with_reducible exact nz_nle (by assumption)
theorem jv_rb_Model_checkRegion (hF : jvF F) (T : gSt) (p1 : Int32) (h : I78 T) : jv (rb_Model_checkRegion F nf T p1) := by
    unfold rb_Model_checkRegion
    repeat' first
      | with_reducible exact jv_none
      | with_reducible refine jv_some ?_
      | with_reducible refine jv_ite (fun _ => ?_) (fun _ => ?_)
      | with_reducible refine jv_gd ?_
      | with_reducible refine jv_stK ?_ (fun _ _ => ?_)
      | with_reducible refine jv_vK (fun _ => ?_)
      | with_reducible refine jv_lK (fun _ => ?_)
      | with_reducible refine jv_bi ?_ (fun _ _ _ _ => ?_)
      | with_reducible refine hF _ _ _ _ ?_ ?_
      | with_reducible refine jv_rj_Model_checkRegion_31 hF  _ _ _ ?_
      | assumption
      | with_reducible refine i78_sI ?_ (by decide) (by decide)
      | with_reducible refine i78_sJ ?_
      | with_reducible refine i78_sA ?_ (by decide) (by decide)
      | with_reducible exact jvA_o (by decide)
      | with_reducible refine jvA_13 ?_
      | decide
      | with_reducible exact nz_nle (by assumption)
theorem jv_rl_Model_checkClose_52 (hF : jvF F) : ∀ (n : Nat) (T : gSt) (x0 : Int32) (x1 : Int32) (x2 : Int32), I78 T → jv (rl_Model_checkClose_52 F nf n T x0 x1 x2) := by
  intro n
  induction n with
  | zero =>
    intro T x0 x1 x2 h
    rw [rl_Model_checkClose_52]
    exact jv_none
  | succ n ih =>
    intro T x0 x1 x2 h
    rw [rl_Model_checkClose_52]
    repeat' first
      | with_reducible exact jv_none
      | with_reducible refine jv_some ?_
      | with_reducible refine jv_ite (fun _ => ?_) (fun _ => ?_)
      | with_reducible refine jv_gd ?_
      | with_reducible refine jv_stK ?_ (fun _ _ => ?_)
      | with_reducible refine jv_vK (fun _ => ?_)
      | with_reducible refine jv_lK (fun _ => ?_)
      | with_reducible refine jv_bi ?_ (fun _ _ _ _ => ?_)
      | with_reducible refine hF _ _ _ _ ?_ ?_
      | with_reducible refine ih _ _ _ _ ?_
      | assumption
      | with_reducible refine i78_sI ?_ (by decide) (by decide)
      | with_reducible refine i78_sJ ?_
      | with_reducible refine i78_sA ?_ (by decide) (by decide)
      | with_reducible exact jvA_o (by decide)
      | with_reducible refine jvA_13 ?_
      | decide
      | with_reducible exact nz_nle (by assumption)
theorem jv_rb_Model_checkClose (hF : jvF F) (T : gSt) (p1 : Int32) (h : I78 T) : jv (rb_Model_checkClose F nf T p1) := by
    unfold rb_Model_checkClose
    repeat' first
      | with_reducible exact jv_none
      | with_reducible refine jv_some ?_
      | with_reducible refine jv_ite (fun _ => ?_) (fun _ => ?_)
      | with_reducible refine jv_gd ?_
      | with_reducible refine jv_stK ?_ (fun _ _ => ?_)
      | with_reducible refine jv_vK (fun _ => ?_)
      | with_reducible refine jv_lK (fun _ => ?_)
      | with_reducible refine jv_bi ?_ (fun _ _ _ _ => ?_)
      | with_reducible refine hF _ _ _ _ ?_ ?_
      | with_reducible refine jv_rl_Model_checkClose_52 hF  _ _ _ _ _ ?_
      | assumption
      | with_reducible refine i78_sI ?_ (by decide) (by decide)
      | with_reducible refine i78_sJ ?_
      | with_reducible refine i78_sA ?_ (by decide) (by decide)
      | with_reducible exact jvA_o (by decide)
      | with_reducible refine jvA_13 ?_
      | decide
      | with_reducible exact nz_nle (by assumption)
theorem jv_rj_Model_checkTry_128 (hF : jvF F) (T : gSt) (x1 : Int32) (x5 : Int32) (x6 : Int32) (x7 : Int32) (x8 : Int32) (x9 : Int32) (x10 : Int32) (y0 : Int32) (h : I78 T) : jv (rj_Model_checkTry_128 F nf T x1 x5 x6 x7 x8 x9 x10 y0) := by
    unfold rj_Model_checkTry_128
    repeat' first
      | with_reducible exact jv_none
      | with_reducible refine jv_some ?_
      | with_reducible refine jv_ite (fun _ => ?_) (fun _ => ?_)
      | with_reducible refine jv_gd ?_
      | with_reducible refine jv_stK ?_ (fun _ _ => ?_)
      | with_reducible refine jv_vK (fun _ => ?_)
      | with_reducible refine jv_lK (fun _ => ?_)
      | with_reducible refine jv_bi ?_ (fun _ _ _ _ => ?_)
      | with_reducible refine hF _ _ _ _ ?_ ?_
      | assumption
      | with_reducible refine i78_sI ?_ (by decide) (by decide)
      | with_reducible refine i78_sJ ?_
      | with_reducible refine i78_sA ?_ (by decide) (by decide)
      | with_reducible exact jvA_o (by decide)
      | with_reducible refine jvA_13 ?_
      | decide
      | with_reducible exact nz_nle (by assumption)
theorem jv_rb_Model_checkTry (hF : jvF F) (T : gSt) (p1 : Int32) (h : I78 T) : jv (rb_Model_checkTry F nf T p1) := by
    unfold rb_Model_checkTry
    repeat' first
      | with_reducible exact jv_none
      | with_reducible refine jv_some ?_
      | with_reducible refine jv_ite (fun _ => ?_) (fun _ => ?_)
      | with_reducible refine jv_gd ?_
      | with_reducible refine jv_stK ?_ (fun _ _ => ?_)
      | with_reducible refine jv_vK (fun _ => ?_)
      | with_reducible refine jv_lK (fun _ => ?_)
      | with_reducible refine jv_bi ?_ (fun _ _ _ _ => ?_)
      | with_reducible refine hF _ _ _ _ ?_ ?_
      | with_reducible refine jv_rj_Model_checkTry_128 hF  _ _ _ _ _ _ _ _ _ ?_
      | assumption
      | with_reducible refine i78_sI ?_ (by decide) (by decide)
      | with_reducible refine i78_sJ ?_
      | with_reducible refine i78_sA ?_ (by decide) (by decide)
      | with_reducible exact jvA_o (by decide)
      | with_reducible refine jvA_13 ?_
      | decide
      | with_reducible exact nz_nle (by assumption)
theorem jv_rb_Model_isLeft (hF : jvF F) (T : gSt) (p1 : Int32) (h : I78 T) : jv (rb_Model_isLeft F nf T p1) := by
    unfold rb_Model_isLeft
    repeat' first
      | with_reducible exact jv_none
      | with_reducible refine jv_some ?_
      | with_reducible refine jv_ite (fun _ => ?_) (fun _ => ?_)
      | with_reducible refine jv_gd ?_
      | with_reducible refine jv_stK ?_ (fun _ _ => ?_)
      | with_reducible refine jv_vK (fun _ => ?_)
      | with_reducible refine jv_lK (fun _ => ?_)
      | with_reducible refine jv_bi ?_ (fun _ _ _ _ => ?_)
      | with_reducible refine hF _ _ _ _ ?_ ?_
      | assumption
      | with_reducible refine i78_sI ?_ (by decide) (by decide)
      | with_reducible refine i78_sJ ?_
      | with_reducible refine i78_sA ?_ (by decide) (by decide)
      | with_reducible exact jvA_o (by decide)
      | with_reducible refine jvA_13 ?_
      | decide
      | with_reducible exact nz_nle (by assumption)
theorem jv_rl_Model_check_69 (hF : jvF F) : ∀ (n : Nat) (T : gSt) (x0 : Int32) (x1 : Int32), I78 T → jv (rl_Model_check_69 F nf n T x0 x1) := by
  intro n
  induction n with
  | zero =>
    intro T x0 x1 h
    rw [rl_Model_check_69]
    exact jv_none
  | succ n ih =>
    intro T x0 x1 h
    rw [rl_Model_check_69]
    repeat' first
      | with_reducible exact jv_none
      | with_reducible refine jv_some ?_
      | with_reducible refine jv_ite (fun _ => ?_) (fun _ => ?_)
      | with_reducible refine jv_gd ?_
      | with_reducible refine jv_stK ?_ (fun _ _ => ?_)
      | with_reducible refine jv_vK (fun _ => ?_)
      | with_reducible refine jv_lK (fun _ => ?_)
      | with_reducible refine jv_bi ?_ (fun _ _ _ _ => ?_)
      | with_reducible refine hF _ _ _ _ ?_ ?_
      | with_reducible refine ih _ _ _ ?_
      | assumption
      | with_reducible refine i78_sI ?_ (by decide) (by decide)
      | with_reducible refine i78_sJ ?_
      | with_reducible refine i78_sA ?_ (by decide) (by decide)
      | with_reducible exact jvA_o (by decide)
      | with_reducible refine jvA_13 ?_
      | decide
      | with_reducible exact nz_nle (by assumption)
theorem jv_rl_Model_check_16 (hF : jvF F) : ∀ (n : Nat) (T : gSt) (x0 : Int32) (x1 : Int32) (x2 : Int32), I78 T → jv (rl_Model_check_16 F nf n T x0 x1 x2) := by
  intro n
  induction n with
  | zero =>
    intro T x0 x1 x2 h
    rw [rl_Model_check_16]
    exact jv_none
  | succ n ih =>
    intro T x0 x1 x2 h
    rw [rl_Model_check_16]
    repeat' first
      | with_reducible exact jv_none
      | with_reducible refine jv_some ?_
      | with_reducible refine jv_ite (fun _ => ?_) (fun _ => ?_)
      | with_reducible refine jv_gd ?_
      | with_reducible refine jv_stK ?_ (fun _ _ => ?_)
      | with_reducible refine jv_vK (fun _ => ?_)
      | with_reducible refine jv_lK (fun _ => ?_)
      | with_reducible refine jv_bi ?_ (fun _ _ _ _ => ?_)
      | with_reducible refine hF _ _ _ _ ?_ ?_
      | with_reducible refine jv_rl_Model_check_69 hF  _ _ _ _ ?_
      | with_reducible refine ih _ _ _ _ ?_
      | assumption
      | with_reducible refine i78_sI ?_ (by decide) (by decide)
      | with_reducible refine i78_sJ ?_
      | with_reducible refine i78_sA ?_ (by decide) (by decide)
      | with_reducible exact jvA_o (by decide)
      | with_reducible refine jvA_13 ?_
      | decide
      | with_reducible exact nz_nle (by assumption)
theorem jv_rb_Model_check (hF : jvF F) (T : gSt) (p1 : Int32) (h : I78 T) : jv (rb_Model_check F nf T p1) := by
    unfold rb_Model_check
    repeat' first
      | with_reducible exact jv_none
      | with_reducible refine jv_some ?_
      | with_reducible refine jv_ite (fun _ => ?_) (fun _ => ?_)
      | with_reducible refine jv_gd ?_
      | with_reducible refine jv_stK ?_ (fun _ _ => ?_)
      | with_reducible refine jv_vK (fun _ => ?_)
      | with_reducible refine jv_lK (fun _ => ?_)
      | with_reducible refine jv_bi ?_ (fun _ _ _ _ => ?_)
      | with_reducible refine hF _ _ _ _ ?_ ?_
      | with_reducible refine jv_rl_Model_check_16 hF  _ _ _ _ _ ?_
      | assumption
      | with_reducible refine i78_sI ?_ (by decide) (by decide)
      | with_reducible refine i78_sJ ?_
      | with_reducible refine i78_sA ?_ (by decide) (by decide)
      | with_reducible exact jvA_o (by decide)
      | with_reducible refine jvA_13 ?_
      | decide
      | with_reducible exact nz_nle (by assumption)
theorem jv_rj_Model_checkKind_221 (hF : jvF F) (T : gSt) (x2 : Int32) (y0 : Int32) (y1 : Int32) (h : I78 T) : jv (rj_Model_checkKind_221 F nf T x2 y0 y1) := by
    unfold rj_Model_checkKind_221
    repeat' first
      | with_reducible exact jv_none
      | with_reducible refine jv_some ?_
      | with_reducible refine jv_ite (fun _ => ?_) (fun _ => ?_)
      | with_reducible refine jv_gd ?_
      | with_reducible refine jv_stK ?_ (fun _ _ => ?_)
      | with_reducible refine jv_vK (fun _ => ?_)
      | with_reducible refine jv_lK (fun _ => ?_)
      | with_reducible refine jv_bi ?_ (fun _ _ _ _ => ?_)
      | with_reducible refine hF _ _ _ _ ?_ ?_
      | assumption
      | with_reducible refine i78_sI ?_ (by decide) (by decide)
      | with_reducible refine i78_sJ ?_
      | with_reducible refine i78_sA ?_ (by decide) (by decide)
      | with_reducible exact jvA_o (by decide)
      | with_reducible refine jvA_13 ?_
      | decide
      | with_reducible exact nz_nle (by assumption)
theorem jv_rj_Model_checkKind_192 (hF : jvF F) (T : gSt) (x2 : Int32) (h : I78 T) : jv (rj_Model_checkKind_192 F nf T x2) := by
    unfold rj_Model_checkKind_192
    repeat' first
      | with_reducible exact jv_none
      | with_reducible refine jv_some ?_
      | with_reducible refine jv_ite (fun _ => ?_) (fun _ => ?_)
      | with_reducible refine jv_gd ?_
      | with_reducible refine jv_stK ?_ (fun _ _ => ?_)
      | with_reducible refine jv_vK (fun _ => ?_)
      | with_reducible refine jv_lK (fun _ => ?_)
      | with_reducible refine jv_bi ?_ (fun _ _ _ _ => ?_)
      | with_reducible refine hF _ _ _ _ ?_ ?_
      | with_reducible refine jv_rj_Model_checkKind_221 hF  _ _ _ _ ?_
      | assumption
      | with_reducible refine i78_sI ?_ (by decide) (by decide)
      | with_reducible refine i78_sJ ?_
      | with_reducible refine i78_sA ?_ (by decide) (by decide)
      | with_reducible exact jvA_o (by decide)
      | with_reducible refine jvA_13 ?_
      | decide
      | with_reducible exact nz_nle (by assumption)
theorem jv_rb_Model_checkKind (hF : jvF F) (T : gSt) (p1 : Int32) (h : I78 T) : jv (rb_Model_checkKind F nf T p1) := by
    unfold rb_Model_checkKind
    repeat' first
      | with_reducible exact jv_none
      | with_reducible refine jv_some ?_
      | with_reducible refine jv_ite (fun _ => ?_) (fun _ => ?_)
      | with_reducible refine jv_gd ?_
      | with_reducible refine jv_stK ?_ (fun _ _ => ?_)
      | with_reducible refine jv_vK (fun _ => ?_)
      | with_reducible refine jv_lK (fun _ => ?_)
      | with_reducible refine jv_bi ?_ (fun _ _ _ _ => ?_)
      | with_reducible refine hF _ _ _ _ ?_ ?_
      | with_reducible refine jv_rj_Model_checkKind_192 hF  _ _ ?_
      | assumption
      | with_reducible refine i78_sI ?_ (by decide) (by decide)
      | with_reducible refine i78_sJ ?_
      | with_reducible refine i78_sA ?_ (by decide) (by decide)
      | with_reducible exact jvA_o (by decide)
      | with_reducible refine jvA_13 ?_
      | decide
      | with_reducible exact nz_nle (by assumption)
theorem jv_rj_Model_checkName_121 (hF : jvF F) (T : gSt) (x3 : Int32) (y0 : Int32) (h : I78 T) : jv (rj_Model_checkName_121 F nf T x3 y0) := by
    unfold rj_Model_checkName_121
    repeat' first
      | with_reducible exact jv_none
      | with_reducible refine jv_some ?_
      | with_reducible refine jv_ite (fun _ => ?_) (fun _ => ?_)
      | with_reducible refine jv_gd ?_
      | with_reducible refine jv_stK ?_ (fun _ _ => ?_)
      | with_reducible refine jv_vK (fun _ => ?_)
      | with_reducible refine jv_lK (fun _ => ?_)
      | with_reducible refine jv_bi ?_ (fun _ _ _ _ => ?_)
      | with_reducible refine hF _ _ _ _ ?_ ?_
      | assumption
      | with_reducible refine i78_sI ?_ (by decide) (by decide)
      | with_reducible refine i78_sJ ?_
      | with_reducible refine i78_sA ?_ (by decide) (by decide)
      | with_reducible exact jvA_o (by decide)
      | with_reducible refine jvA_13 ?_
      | decide
      | with_reducible exact nz_nle (by assumption)
theorem jv_rj_Model_checkName_57 (hF : jvF F) (T : gSt) (x1 : Int32) (x2 : Int32) (h : I78 T) : jv (rj_Model_checkName_57 F nf T x1 x2) := by
    unfold rj_Model_checkName_57
    repeat' first
      | with_reducible exact jv_none
      | with_reducible refine jv_some ?_
      | with_reducible refine jv_ite (fun _ => ?_) (fun _ => ?_)
      | with_reducible refine jv_gd ?_
      | with_reducible refine jv_stK ?_ (fun _ _ => ?_)
      | with_reducible refine jv_vK (fun _ => ?_)
      | with_reducible refine jv_lK (fun _ => ?_)
      | with_reducible refine jv_bi ?_ (fun _ _ _ _ => ?_)
      | with_reducible refine hF _ _ _ _ ?_ ?_
      | with_reducible refine jv_rj_Model_checkName_121 hF  _ _ _ ?_
      | assumption
      | with_reducible refine i78_sI ?_ (by decide) (by decide)
      | with_reducible refine i78_sJ ?_
      | with_reducible refine i78_sA ?_ (by decide) (by decide)
      | with_reducible exact jvA_o (by decide)
      | with_reducible refine jvA_13 ?_
      | decide
      | with_reducible exact nz_nle (by assumption)
theorem jv_rb_Model_checkName (hF : jvF F) (T : gSt) (p1 : Int32) (h : I78 T) : jv (rb_Model_checkName F nf T p1) := by
    unfold rb_Model_checkName
    repeat' first
      | with_reducible exact jv_none
      | with_reducible refine jv_some ?_
      | with_reducible refine jv_ite (fun _ => ?_) (fun _ => ?_)
      | with_reducible refine jv_gd ?_
      | with_reducible refine jv_stK ?_ (fun _ _ => ?_)
      | with_reducible refine jv_vK (fun _ => ?_)
      | with_reducible refine jv_lK (fun _ => ?_)
      | with_reducible refine jv_bi ?_ (fun _ _ _ _ => ?_)
      | with_reducible refine hF _ _ _ _ ?_ ?_
      | with_reducible refine jv_rj_Model_checkName_57 hF  _ _ _ ?_
      | assumption
      | with_reducible refine i78_sI ?_ (by decide) (by decide)
      | with_reducible refine i78_sJ ?_
      | with_reducible refine i78_sA ?_ (by decide) (by decide)
      | with_reducible exact jvA_o (by decide)
      | with_reducible refine jvA_13 ?_
      | decide
      | with_reducible exact nz_nle (by assumption)
theorem jv_rj_Model_checkThrough_289 (hF : jvF F) (T : gSt) (x2 : Int32) (x5 : Int32) (x6 : Int32) (y0 : Int32) (y1 : Int32) (h : I78 T) : jv (rj_Model_checkThrough_289 F nf T x2 x5 x6 y0 y1) := by
    unfold rj_Model_checkThrough_289
    repeat' first
      | with_reducible exact jv_none
      | with_reducible refine jv_some ?_
      | with_reducible refine jv_ite (fun _ => ?_) (fun _ => ?_)
      | with_reducible refine jv_gd ?_
      | with_reducible refine jv_stK ?_ (fun _ _ => ?_)
      | with_reducible refine jv_vK (fun _ => ?_)
      | with_reducible refine jv_lK (fun _ => ?_)
      | with_reducible refine jv_bi ?_ (fun _ _ _ _ => ?_)
      | with_reducible refine hF _ _ _ _ ?_ ?_
      | assumption
      | with_reducible refine i78_sI ?_ (by decide) (by decide)
      | with_reducible refine i78_sJ ?_
      | with_reducible refine i78_sA ?_ (by decide) (by decide)
      | with_reducible exact jvA_o (by decide)
      | with_reducible refine jvA_13 ?_
      | decide
      | with_reducible exact nz_nle (by assumption)
theorem jv_rj_Model_checkThrough_238 (hF : jvF F) (T : gSt) (x1 : Int32) (x2 : Int32) (x5 : Int32) (x6 : Int32) (h : I78 T) : jv (rj_Model_checkThrough_238 F nf T x1 x2 x5 x6) := by
    unfold rj_Model_checkThrough_238
    repeat' first
      | with_reducible exact jv_none
      | with_reducible refine jv_some ?_
      | with_reducible refine jv_ite (fun _ => ?_) (fun _ => ?_)
      | with_reducible refine jv_gd ?_
      | with_reducible refine jv_stK ?_ (fun _ _ => ?_)
      | with_reducible refine jv_vK (fun _ => ?_)
      | with_reducible refine jv_lK (fun _ => ?_)
      | with_reducible refine jv_bi ?_ (fun _ _ _ _ => ?_)
      | with_reducible refine hF _ _ _ _ ?_ ?_
      | with_reducible refine jv_rj_Model_checkThrough_289 hF  _ _ _ _ _ _ ?_
      | assumption
      | with_reducible refine i78_sI ?_ (by decide) (by decide)
      | with_reducible refine i78_sJ ?_
      | with_reducible refine i78_sA ?_ (by decide) (by decide)
      | with_reducible exact jvA_o (by decide)
      | with_reducible refine jvA_13 ?_
      | decide
      | with_reducible exact nz_nle (by assumption)
theorem jv_rj_Model_checkThrough_185 (hF : jvF F) (T : gSt) (x1 : Int32) (x2 : Int32) (x3 : Int32) (y0 : Int32) (y1 : Int32) (h : I78 T) : jv (rj_Model_checkThrough_185 F nf T x1 x2 x3 y0 y1) := by
    unfold rj_Model_checkThrough_185
    repeat' first
      | with_reducible exact jv_none
      | with_reducible refine jv_some ?_
      | with_reducible refine jv_ite (fun _ => ?_) (fun _ => ?_)
      | with_reducible refine jv_gd ?_
      | with_reducible refine jv_stK ?_ (fun _ _ => ?_)
      | with_reducible refine jv_vK (fun _ => ?_)
      | with_reducible refine jv_lK (fun _ => ?_)
      | with_reducible refine jv_bi ?_ (fun _ _ _ _ => ?_)
      | with_reducible refine hF _ _ _ _ ?_ ?_
      | with_reducible refine jv_rj_Model_checkThrough_238 hF  _ _ _ _ _ ?_
      | assumption
      | with_reducible refine i78_sI ?_ (by decide) (by decide)
      | with_reducible refine i78_sJ ?_
      | with_reducible refine i78_sA ?_ (by decide) (by decide)
      | with_reducible exact jvA_o (by decide)
      | with_reducible refine jvA_13 ?_
      | decide
      | with_reducible exact nz_nle (by assumption)
end IVT
