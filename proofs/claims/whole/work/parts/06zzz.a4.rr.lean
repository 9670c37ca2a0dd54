theorem RR_no {z : Int32 × Int64 × gSt} {P : Prop} (h : (none : gR) = some z) : P := by cases h
def mtM (l : Launch) (dC : Nat → ClassId) (dI : Nat → Nat → Nat) (ea ev ad : Nat → Nat) (km : Nat → ClassId) (F : gF) (d : Nat) : Prop := mt_Model_four l dC dI ea ev ad km F d ∧
  mt_Model_feed l dC dI ea ev ad km F d ∧
  mt_Model_end l dC dI ea ev ad km F d ∧
  mt_Model_packed l dC dI ea ev ad km F d ∧
  mt_Model_see_I l dC dI ea ev ad km F d ∧
  mt_Model_advance l dC dI ea ev ad km F d ∧
  mt_Model_fail l dC dI ea ev ad km F d ∧
  mt_Model_bad l dC dI ea ev ad km F d ∧
  mt_Model_wrong l dC dI ea ev ad km F d ∧
  mt_Model_isSign l dC dI ea ev ad km F d ∧
  mt_Model_isWord l dC dI ea ev ad km F d ∧
  mt_Model_takes l dC dI ea ev ad km F d ∧
  mt_Model_takesWord l dC dI ea ev ad km F d ∧
  mt_Model_need l dC dI ea ev ad km F d ∧
  mt_Model_needName l dC dI ea ev ad km F d ∧
  mt_Model_needRegion l dC dI ea ev ad km F d ∧
  mt_Model_program_ l dC dI ea ev ad km F d ∧
  mt_Model_readItem l dC dI ea ev ad km F d ∧
  mt_Model_readField l dC dI ea ev ad km F d ∧
  mt_Model_readHead l dC dI ea ev ad km F d ∧
  mt_Model_readWheres l dC dI ea ev ad km F d ∧
  mt_Model_type l dC dI ea ev ad km F d ∧
  mt_Model_readUses l dC dI ea ev ad km F d ∧
  mt_Model_node l dC dI ea ev ad km F d ∧
  mt_Model_block l dC dI ea ev ad km F d ∧
  mt_Model_step l dC dI ea ev ad km F d ∧
  mt_Model_readVar l dC dI ea ev ad km F d ∧
  mt_Model_operator l dC dI ea ev ad km F d ∧
  mt_Model_expression l dC dI ea ev ad km F d ∧
  mt_Model_term l dC dI ea ev ad km F d ∧
  mt_Model_arguments l dC dI ea ev ad km F d ∧
  mt_Model_primary l dC dI ea ev ad km F d ∧
  mt_Model_readNamed l dC dI ea ev ad km F d ∧
  mt_Model_readNew l dC dI ea ev ad km F d ∧
  mt_Model_known l dC dI ea ev ad km F d ∧
  mt_Model_part l dC dI ea ev ad km F d ∧
  mt_Model_changed l dC dI ea ev ad km F d ∧
  mt_Model_isPointer l dC dI ea ev ad km F d ∧
  mt_Model_isRow l dC dI ea ev ad km F d ∧
  mt_Model_isTitled l dC dI ea ev ad km F d ∧
  mt_Model_sameCell l dC dI ea ev ad km F d ∧
  mt_Model_findTitle l dC dI ea ev ad km F d ∧
  mt_Model_findFun l dC dI ea ev ad km F d ∧
  mt_Model_findField l dC dI ea ev ad km F d ∧
  mt_Model_findVar l dC dI ea ev ad km F d ∧
  mt_Model_findRegion l dC dI ea ev ad km F d ∧
  mt_Model_regionAt l dC dI ea ev ad km F d ∧
  mt_Model_isLive l dC dI ea ev ad km F d ∧
  mt_Model_liveRegionAt l dC dI ea ev ad km F d ∧
  mt_Model_withAt l dC dI ea ev ad km F d ∧
  mt_Model_meaning l dC dI ea ev ad km F d ∧
  mt_Model_doesOutlive l dC dI ea ev ad km F d ∧
  mt_Model_misfit l dC dI ea ev ad km F d ∧
  mt_Model_fit l dC dI ea ev ad km F d ∧
  mt_Model_seeRegions l dC dI ea ev ad km F d ∧
  mt_Model_regionOfItem l dC dI ea ev ad km F d ∧
  mt_Model_checkHead l dC dI ea ev ad km F d ∧
  mt_Model_checkHeads l dC dI ea ev ad km F d ∧
  mt_Model_checkFun l dC dI ea ev ad km F d ∧
  mt_Model_see_JII l dC dI ea ev ad km F d ∧
  mt_Model_stop l dC dI ea ev ad km F d ∧
  mt_Model_checkBlock l dC dI ea ev ad km F d ∧
  mt_Model_needInt l dC dI ea ev ad km F d ∧
  mt_Model_checkStep l dC dI ea ev ad km F d ∧
  mt_Model_checkVar l dC dI ea ev ad km F d ∧
  mt_Model_give l dC dI ea ev ad km F d ∧
  mt_Model_checkSet l dC dI ea ev ad km F d ∧
  mt_Model_asked l dC dI ea ev ad km F d ∧
  mt_Model_knowing l dC dI ea ev ad km F d ∧
  mt_Model_checkCondition l dC dI ea ev ad km F d ∧
  mt_Model_checkIf l dC dI ea ev ad km F d ∧
  mt_Model_meet l dC dI ea ev ad km F d ∧
  mt_Model_given l dC dI ea ev ad km F d ∧
  mt_Model_checkWhile l dC dI ea ev ad km F d ∧
  mt_Model_checkReturn l dC dI ea ev ad km F d ∧
  mt_Model_checkRegion l dC dI ea ev ad km F d ∧
  mt_Model_checkClose l dC dI ea ev ad km F d ∧
  mt_Model_checkTry l dC dI ea ev ad km F d ∧
  mt_Model_isLeft l dC dI ea ev ad km F d ∧
  mt_Model_check l dC dI ea ev ad km F d ∧
  mt_Model_checkKind l dC dI ea ev ad km F d ∧
  mt_Model_checkName l dC dI ea ev ad km F d ∧
  mt_Model_checkThrough l dC dI ea ev ad km F d ∧
  mt_Model_checkIndex l dC dI ea ev ad km F d ∧
  mt_Model_checkAnd l dC dI ea ev ad km F d ∧
  mt_Model_checkMade l dC dI ea ev ad km F d ∧
  mt_Model_checkNew l dC dI ea ev ad km F d ∧
  mt_Model_fitAll l dC dI ea ev ad km F d ∧
  mt_Model_checkCall l dC dI ea ev ad km F d ∧
  mt_Model_checkOperator l dC dI ea ev ad km F d ∧
  mt_Model_lay l dC dI ea ev ad km F d ∧
  mt_Model_layOut l dC dI ea ev ad km F d ∧
  mt_Model_layBlock l dC dI ea ev ad km F d ∧
  mt_Model_layStep l dC dI ea ev ad km F d ∧
  mt_Model_layPlace l dC dI ea ev ad km F d ∧
  mt_Model_wordsOf l dC dI ea ev ad km F d ∧
  mt_Model_layExpression l dC dI ea ev ad km F d ∧
  mt_Model_layBehind l dC dI ea ev ad km F d ∧
  mt_Model_layFirst l dC dI ea ev ad km F d ∧
  mt_Model_push l dC dI ea ev ad km F d ∧
  mt_Model_stopAll l dC dI ea ev ad km F d ∧
  mt_Model_begin l dC dI ea ev ad km F d ∧
  mt_Model_shrink l dC dI ea ev ad km F d ∧
  mt_Model_make l dC dI ea ev ad km F d ∧
  mt_Model_placeOf l dC dI ea ev ad km F d ∧
  mt_Model_pushPlace l dC dI ea ev ad km F d ∧
  mt_Model_put l dC dI ea ev ad km F d ∧
  mt_Model_raise l dC dI ea ev ad km F d ∧
  mt_Model_var l dC dI ea ev ad km F d ∧
  mt_Model_regionIndex l dC dI ea ev ad km F d ∧
  mt_Model_goOn l dC dI ea ev ad km F d ∧
  mt_Model_run_IIII l dC dI ea ev ad km F d ∧
  mt_Model_input_ l dC dI ea ev ad km F d ∧
  mt_Model_invoke l dC dI ea ev ad km F d ∧
  mt_Model_back l dC dI ea ev ad km F d ∧
  mt_Model_makeBy l dC dI ea ev ad km F d ∧
  mt_Model_makeRow l dC dI ea ev ad km F d ∧
  mt_Model_reckon l dC dI ea ev ad km F d ∧
  mt_Model_touch l dC dI ea ev ad km F d ∧
  mt_Model_build l dC dI ea ev ad km F d ∧
  mt_Model_fault l dC dI ea ev ad km F d ∧
  mt_Model_program_I l dC dI ea ev ad km F d ∧
  mt_Model_start l dC dI ea ev ad km F d ∧
  mt_Model_input_I l dC dI ea ev ad km F d ∧
  mt_Model_run_I l dC dI ea ev ad km F d ∧
  mt_Model_state l dC dI ea ev ad km F d ∧
  mt_Model_world l dC dI ea ev ad km F d ∧
  mt_Model_region l dC dI ea ev ad km F d ∧
  mt_Model_printed l dC dI ea ev ad km F d
set_option maxHeartbeats 8000000 in
set_option maxRecDepth 100000 in
theorem RR_ok (l : Launch) (dC : Nat → ClassId) (dI : Nat → Nat → Nat) (ea ev ad : Nat → Nat) (km : Nat → ClassId) (nf : Nat) : ∀ d, mtM l dC dI ea ev ad km (RR nf d) d := by
  intro d
  induction d with
  | zero =>
    exact ⟨fun T p1 r rl T'  h => RR_no h,
    fun T p1 p2 p3 p4 p5 r rl T'  h => RR_no h,
    fun T p1 r rl T'  h => RR_no h,
    fun T p1 r rl T' _ h => RR_no h,
    fun T p1 r rl T'  h => RR_no h,
    fun T  r rl T'  h => RR_no h,
    fun T p1 p2 r rl T'  h => RR_no h,
    fun T  r rl T'  h => RR_no h,
    fun T  r rl T'  h => RR_no h,
    fun T p1 r rl T'  h => RR_no h,
    fun T p1 r rl T' _ h => RR_no h,
    fun T p1 r rl T'  h => RR_no h,
    fun T p1 r rl T' _ h => RR_no h,
    fun T p1 r rl T'  h => RR_no h,
    fun T  r rl T'  h => RR_no h,
    fun T  r rl T'  h => RR_no h,
    fun T  r rl T'  h => RR_no h,
    fun T p1 r rl T'  h => RR_no h,
    fun T  r rl T'  h => RR_no h,
    fun T  r rl T'  h => RR_no h,
    fun T  r rl T'  h => RR_no h,
    fun T p1 r rl T'  h => RR_no h,
    fun T  r rl T'  h => RR_no h,
    fun T p1 p2 r rl T'  h => RR_no h,
    fun T p1 r rl T'  h => RR_no h,
    fun T p1 r rl T'  h => RR_no h,
    fun T p1 p2 r rl T'  h => RR_no h,
    fun T  r rl T'  h => RR_no h,
    fun T p1 r rl T'  h => RR_no h,
    fun T p1 r rl T'  h => RR_no h,
    fun T p1 p2 p3 r rl T'  h => RR_no h,
    fun T p1 r rl T'  h => RR_no h,
    fun T p1 p2 r rl T'  h => RR_no h,
    fun T p1 p2 r rl T'  h => RR_no h,
    fun T p1 p2 p3 p4 p5 r rl T'  h => RR_no h,
    fun T p1 p2 r rl T'  h => RR_no h,
    fun T p1 p2 r rl T'  h => RR_no h,
    fun T p1 r rl T'  h => RR_no h,
    fun T p1 r rl T'  h => RR_no h,
    fun T p1 r rl T'  h => RR_no h,
    fun T p1 p2 r rl T'  h => RR_no h,
    fun T p1 r rl T'  h => RR_no h,
    fun T p1 r rl T'  h => RR_no h,
    fun T p1 p2 r rl T'  h => RR_no h,
    fun T p1 r rl T'  h => RR_no h,
    fun T p1 r rl T'  h => RR_no h,
    fun T p1 r rl T'  h => RR_no h,
    fun T p1 r rl T'  h => RR_no h,
    fun T p1 r rl T'  h => RR_no h,
    fun T p1 p2 r rl T'  h => RR_no h,
    fun T p1 r rl T'  h => RR_no h,
    fun T p1 p2 r rl T'  h => RR_no h,
    fun T p1 p2 r rl T'  h => RR_no h,
    fun T p1 p2 p3 r rl T'  h => RR_no h,
    fun T p1 r rl T'  h => RR_no h,
    fun T p1 p2 r rl T'  h => RR_no h,
    fun T p1 r rl T'  h => RR_no h,
    fun T  r rl T'  h => RR_no h,
    fun T p1 r rl T'  h => RR_no h,
    fun T p1 p2 p3 r rl T'  h => RR_no h,
    fun T  r rl T'  h => RR_no h,
    fun T p1 r rl T'  h => RR_no h,
    fun T p1 r rl T'  h => RR_no h,
    fun T p1 r rl T'  h => RR_no h,
    fun T p1 r rl T'  h => RR_no h,
    fun T p1 p2 p3 p4 r rl T'  h => RR_no h,
    fun T p1 r rl T'  h => RR_no h,
    fun T p1 p2 r rl T'  h => RR_no h,
    fun T p1 r rl T'  h => RR_no h,
    fun T p1 r rl T'  h => RR_no h,
    fun T p1 r rl T'  h => RR_no h,
    fun T p1 p2 p3 p4 p5 r rl T'  h => RR_no h,
    fun T p1 r rl T'  h => RR_no h,
    fun T p1 r rl T'  h => RR_no h,
    fun T p1 r rl T'  h => RR_no h,
    fun T p1 r rl T'  h => RR_no h,
    fun T p1 r rl T'  h => RR_no h,
    fun T p1 r rl T'  h => RR_no h,
    fun T p1 r rl T'  h => RR_no h,
    fun T p1 r rl T'  h => RR_no h,
    fun T p1 r rl T'  h => RR_no h,
    fun T p1 r rl T'  h => RR_no h,
    fun T p1 r rl T'  h => RR_no h,
    fun T p1 r rl T'  h => RR_no h,
    fun T p1 r rl T'  h => RR_no h,
    fun T p1 r rl T'  h => RR_no h,
    fun T p1 r rl T'  h => RR_no h,
    fun T p1 p2 p3 r rl T'  h => RR_no h,
    fun T p1 r rl T'  h => RR_no h,
    fun T p1 r rl T'  h => RR_no h,
    fun T p1 p2 p3 p4 r rl T'  h => RR_no h,
    fun T  r rl T'  h => RR_no h,
    fun T p1 r rl T'  h => RR_no h,
    fun T p1 r rl T'  h => RR_no h,
    fun T p1 r rl T'  h => RR_no h,
    fun T p1 r rl T'  h => RR_no h,
    fun T p1 r rl T'  h => RR_no h,
    fun T p1 r rl T'  h => RR_no h,
    fun T p1 r rl T'  h => RR_no h,
    fun T p1 p2 p3 r rl T'  h => RR_no h,
    fun T  r rl T'  h => RR_no h,
    fun T p1 r rl T'  h => RR_no h,
    fun T p1 r rl T'  h => RR_no h,
    fun T p1 p2 p3 r rl T'  h => RR_no h,
    fun T p1 p2 p3 r rl T'  h => RR_no h,
    fun T p1 p2 p3 r rl T'  h => RR_no h,
    fun T p1 p2 p3 p4 r rl T'  h => RR_no h,
    fun T p1 r rl T'  h => RR_no h,
    fun T p1 r rl T'  h => RR_no h,
    fun T p1 r rl T'  h => RR_no h,
    fun T  r rl T'  h => RR_no h,
    fun T p1 p2 p3 p4 r rl T'  h => RR_no h,
    fun T  r rl T'  h => RR_no h,
    fun T p1 p2 r rl T'  h => RR_no h,
    fun T  r rl T'  h => RR_no h,
    fun T p1 p2 p3 p4 r rl T'  h => RR_no h,
    fun T p1 p2 r rl T'  h => RR_no h,
    fun T p1 p2 r rl T'  h => RR_no h,
    fun T p1 p2 p3 r rl T'  h => RR_no h,
    fun T  r rl T'  h => RR_no h,
    fun T p1 r rl T'  h => RR_no h,
    fun T p1 r rl T'  h => RR_no h,
    fun T p1 p2 r rl T'  h => RR_no h,
    fun T p1 r rl T'  h => RR_no h,
    fun T p1 r rl T'  h => RR_no h,
    fun T p1 r rl T'  h => RR_no h,
    fun T p1 r rl T'  h => RR_no h,
    fun T p1 p2 r rl T'  h => RR_no h,
    fun T p1 r rl T'  h => RR_no h⟩
  | succ d ih =>
    obtain ⟨h_Model_four, h_Model_feed, h_Model_end, h_Model_packed, h_Model_see_I, h_Model_advance, h_Model_fail, h_Model_bad, h_Model_wrong, h_Model_isSign, h_Model_isWord, h_Model_takes, h_Model_takesWord, h_Model_need, h_Model_needName, h_Model_needRegion, h_Model_program_, h_Model_readItem, h_Model_readField, h_Model_readHead, h_Model_readWheres, h_Model_type, h_Model_readUses, h_Model_node, h_Model_block, h_Model_step, h_Model_readVar, h_Model_operator, h_Model_expression, h_Model_term, h_Model_arguments, h_Model_primary, h_Model_readNamed, h_Model_readNew, h_Model_known, h_Model_part, h_Model_changed, h_Model_isPointer, h_Model_isRow, h_Model_isTitled, h_Model_sameCell, h_Model_findTitle, h_Model_findFun, h_Model_findField, h_Model_findVar, h_Model_findRegion, h_Model_regionAt, h_Model_isLive, h_Model_liveRegionAt, h_Model_withAt, h_Model_meaning, h_Model_doesOutlive, h_Model_misfit, h_Model_fit, h_Model_seeRegions, h_Model_regionOfItem, h_Model_checkHead, h_Model_checkHeads, h_Model_checkFun, h_Model_see_JII, h_Model_stop, h_Model_checkBlock, h_Model_needInt, h_Model_checkStep, h_Model_checkVar, h_Model_give, h_Model_checkSet, h_Model_asked, h_Model_knowing, h_Model_checkCondition, h_Model_checkIf, h_Model_meet, h_Model_given, h_Model_checkWhile, h_Model_checkReturn, h_Model_checkRegion, h_Model_checkClose, h_Model_checkTry, h_Model_isLeft, h_Model_check, h_Model_checkKind, h_Model_checkName, h_Model_checkThrough, h_Model_checkIndex, h_Model_checkAnd, h_Model_checkMade, h_Model_checkNew, h_Model_fitAll, h_Model_checkCall, h_Model_checkOperator, h_Model_lay, h_Model_layOut, h_Model_layBlock, h_Model_layStep, h_Model_layPlace, h_Model_wordsOf, h_Model_layExpression, h_Model_layBehind, h_Model_layFirst, h_Model_push, h_Model_stopAll, h_Model_begin, h_Model_shrink, h_Model_make, h_Model_placeOf, h_Model_pushPlace, h_Model_put, h_Model_raise, h_Model_var, h_Model_regionIndex, h_Model_goOn, h_Model_run_IIII, h_Model_input_, h_Model_invoke, h_Model_back, h_Model_makeBy, h_Model_makeRow, h_Model_reckon, h_Model_touch, h_Model_build, h_Model_fault, h_Model_program_I, h_Model_start, h_Model_input_I, h_Model_run_I, h_Model_state, h_Model_world, h_Model_region, h_Model_printed⟩ := ih
    exact ⟨fun T p1 r rl T'  h => sp_Model_four l dC dI ea ev ad km (RR nf d) nf d T p1 r rl T' h,
    fun T p1 p2 p3 p4 p5 r rl T'  h => sp_Model_feed l dC dI ea ev ad km (RR nf d) nf d h_Model_four T p1 p2 p3 p4 p5 r rl T' h,
    fun T p1 r rl T'  h => sp_Model_end l dC dI ea ev ad km (RR nf d) nf d T p1 r rl T' h,
    fun T p1 r rl T' hp1 h => (by have h2 : (some (0, pks (nI p1).toNatClampNeg (s_len.getD (nI p1).toNatClampNeg 0), T) : gR) = some (r, rl, T') := h; rw [nI_clamp (by omega)] at h2; obtain ⟨-, e1, e3⟩ := re_e h2; subst e1; subst e3; exact lift_pck l dC dI ea ev ad km (d + 1) T p1 hp1),
    fun T p1 r rl T'  h => sp_Model_see_I l dC dI ea ev ad km (RR nf d) nf d T p1 r rl T' h,
    fun T  r rl T'  h => (by obtain ⟨hk, h2⟩ := gd_e (show gd (advOk T) (some (0, 0, advS T)) = some (r, rl, T') from h); obtain ⟨-, -, e3⟩ := re_e h2; subst e3; exact lift_adv l dC dI ea ev ad km (d + 1) T hk),
    fun T p1 p2 r rl T'  h => sp_Model_fail l dC dI ea ev ad km (RR nf d) nf d T p1 p2 r rl T' h,
    fun T  r rl T'  h => sp_Model_bad l dC dI ea ev ad km (RR nf d) nf d T r rl T' h,
    fun T  r rl T'  h => sp_Model_wrong l dC dI ea ev ad km (RR nf d) nf d h_Model_fail T r rl T' h,
    fun T p1 r rl T'  h => sp_Model_isSign l dC dI ea ev ad km (RR nf d) nf d h_Model_bad T p1 r rl T' h,
    fun T p1 r rl T' hp1 h => (by have h2 : (some (isWd T (nI p1).toNatClampNeg, 0, T) : gR) = some (r, rl, T') := h; rw [nI_clamp (by omega)] at h2; obtain ⟨e1, -, e3⟩ := re_e h2; subst e1; subst e3; exact lift_isW l dC dI ea ev ad km (d + 1) T p1 hp1),
    fun T p1 r rl T'  h => sp_Model_takes l dC dI ea ev ad km (RR nf d) nf d h_Model_isSign h_Model_advance T p1 r rl T' h,
    fun T p1 r rl T' hp1 h => sp_Model_takesWord l dC dI ea ev ad km (RR nf d) nf d h_Model_isWord h_Model_advance T p1 hp1 r rl T' (by have h2 : rb_Model_takesWord (RR nf d) nf T (nI p1).toNatClampNeg = some (r, rl, T') := h; rwa [nI_clamp (by omega)] at h2),
    fun T p1 r rl T'  h => sp_Model_need l dC dI ea ev ad km (RR nf d) nf d h_Model_takes h_Model_wrong T p1 r rl T' h,
    fun T  r rl T'  h => sp_Model_needName l dC dI ea ev ad km (RR nf d) nf d h_Model_bad h_Model_advance h_Model_wrong T r rl T' h,
    fun T  r rl T'  h => sp_Model_needRegion l dC dI ea ev ad km (RR nf d) nf d h_Model_wrong h_Model_bad h_Model_advance T r rl T' h,
    fun T  r rl T'  h => sp_Model_program_ l dC dI ea ev ad km (RR nf d) nf d h_Model_advance h_Model_bad h_Model_isWord h_Model_wrong h_Model_readItem T r rl T' h,
    fun T p1 r rl T'  h => sp_Model_readItem l dC dI ea ev ad km (RR nf d) nf d h_Model_wrong h_Model_bad h_Model_advance h_Model_need h_Model_readHead h_Model_block h_Model_readField h_Model_isSign T p1 r rl T' h,
    fun T  r rl T'  h => sp_Model_readField l dC dI ea ev ad km (RR nf d) nf d h_Model_needName h_Model_need h_Model_bad h_Model_type T r rl T' h,
    fun T  r rl T'  h => sp_Model_readHead l dC dI ea ev ad km (RR nf d) nf d h_Model_need h_Model_bad h_Model_isSign h_Model_wrong h_Model_readField h_Model_takes h_Model_takesWord h_Model_readWheres h_Model_type h_Model_needRegion T r rl T' h,
    fun T  r rl T'  h => sp_Model_readWheres l dC dI ea ev ad km (RR nf d) nf d h_Model_bad h_Model_wrong h_Model_needRegion h_Model_need h_Model_takes T r rl T' h,
    fun T p1 r rl T'  h => sp_Model_type l dC dI ea ev ad km (RR nf d) nf d h_Model_wrong h_Model_isWord h_Model_isSign h_Model_bad h_Model_advance h_Model_needRegion h_Model_readUses h_Model_type T p1 r rl T' h,
    fun T  r rl T'  h => sp_Model_readUses l dC dI ea ev ad km (RR nf d) nf d h_Model_bad h_Model_needRegion T r rl T' h,
    fun T p1 p2 r rl T'  h => sp_Model_node l dC dI ea ev ad km (RR nf d) nf d T p1 p2 r rl T' h,
    fun T p1 r rl T'  h => sp_Model_block l dC dI ea ev ad km (RR nf d) nf d h_Model_wrong h_Model_need h_Model_bad h_Model_node h_Model_isSign h_Model_step T p1 r rl T' h,
    fun T p1 r rl T'  h => sp_Model_step l dC dI ea ev ad km (RR nf d) nf d h_Model_takesWord h_Model_isWord h_Model_advance h_Model_node h_Model_block h_Model_wrong h_Model_needRegion h_Model_need h_Model_fail h_Model_isSign h_Model_expression h_Model_readVar h_Model_takes T p1 r rl T' h,
    fun T p1 p2 r rl T'  h => sp_Model_readVar l dC dI ea ev ad km (RR nf d) nf d h_Model_node h_Model_wrong h_Model_needName h_Model_need h_Model_type h_Model_takes h_Model_expression T p1 p2 r rl T' h,
    fun T  r rl T'  h => sp_Model_operator l dC dI ea ev ad km (RR nf d) nf d h_Model_bad T r rl T' h,
    fun T p1 r rl T'  h => sp_Model_expression l dC dI ea ev ad km (RR nf d) nf d h_Model_term h_Model_wrong h_Model_operator h_Model_advance h_Model_node T p1 r rl T' h,
    fun T p1 r rl T'  h => sp_Model_term l dC dI ea ev ad km (RR nf d) nf d h_Model_primary h_Model_bad h_Model_takes h_Model_takesWord h_Model_node h_Model_needName h_Model_expression h_Model_need T p1 r rl T' h,
    fun T p1 p2 p3 r rl T'  h => sp_Model_arguments l dC dI ea ev ad km (RR nf d) nf d h_Model_bad h_Model_need h_Model_isSign h_Model_wrong h_Model_expression h_Model_node T p1 p2 p3 r rl T' h,
    fun T p1 r rl T'  h => sp_Model_primary l dC dI ea ev ad km (RR nf d) nf d h_Model_bad h_Model_takes h_Model_takesWord h_Model_isWord h_Model_advance h_Model_wrong h_Model_node h_Model_term h_Model_readNew h_Model_readNamed h_Model_expression h_Model_need h_Model_needRegion T p1 r rl T' h,
    fun T p1 p2 r rl T'  h => sp_Model_readNamed l dC dI ea ev ad km (RR nf d) nf d h_Model_node h_Model_advance h_Model_isSign h_Model_readUses h_Model_need h_Model_arguments T p1 p2 r rl T' h,
    fun T p1 p2 r rl T'  h => sp_Model_readNew l dC dI ea ev ad km (RR nf d) nf d h_Model_node h_Model_needRegion h_Model_wrong h_Model_bad h_Model_advance h_Model_readUses h_Model_takes h_Model_need h_Model_arguments h_Model_needName h_Model_expression T p1 p2 r rl T' h,
    fun T p1 p2 p3 p4 p5 r rl T'  h => sp_Model_known l dC dI ea ev ad km (RR nf d) nf d T p1 p2 p3 p4 p5 r rl T' h,
    fun T p1 p2 r rl T'  h => sp_Model_part l dC dI ea ev ad km (RR nf d) nf d T p1 p2 r rl T' h,
    fun T p1 p2 r rl T'  h => sp_Model_changed l dC dI ea ev ad km (RR nf d) nf d h_Model_part h_Model_changed h_Model_known T p1 p2 r rl T' h,
    fun T p1 r rl T'  h => sp_Model_isPointer l dC dI ea ev ad km (RR nf d) nf d T p1 r rl T' h,
    fun T p1 r rl T'  h => sp_Model_isRow l dC dI ea ev ad km (RR nf d) nf d T p1 r rl T' h,
    fun T p1 r rl T'  h => sp_Model_isTitled l dC dI ea ev ad km (RR nf d) nf d h_Model_isPointer T p1 r rl T' h,
    fun T p1 p2 r rl T'  h => sp_Model_sameCell l dC dI ea ev ad km (RR nf d) nf d T p1 p2 r rl T' h,
    fun T p1 r rl T'  h => sp_Model_findTitle l dC dI ea ev ad km (RR nf d) nf d T p1 r rl T' h,
    fun T p1 r rl T'  h => sp_Model_findFun l dC dI ea ev ad km (RR nf d) nf d T p1 r rl T' h,
    fun T p1 p2 r rl T'  h => sp_Model_findField l dC dI ea ev ad km (RR nf d) nf d T p1 p2 r rl T' h,
    fun T p1 r rl T'  h => sp_Model_findVar l dC dI ea ev ad km (RR nf d) nf d T p1 r rl T' h,
    fun T p1 r rl T'  h => sp_Model_findRegion l dC dI ea ev ad km (RR nf d) nf d T p1 r rl T' h,
    fun T p1 r rl T'  h => sp_Model_regionAt l dC dI ea ev ad km (RR nf d) nf d h_Model_findRegion h_Model_fail T p1 r rl T' h,
    fun T p1 r rl T'  h => sp_Model_isLive l dC dI ea ev ad km (RR nf d) nf d T p1 r rl T' h,
    fun T p1 r rl T'  h => sp_Model_liveRegionAt l dC dI ea ev ad km (RR nf d) nf d h_Model_regionAt h_Model_bad h_Model_isLive h_Model_fail T p1 r rl T' h,
    fun T p1 p2 r rl T'  h => sp_Model_withAt l dC dI ea ev ad km (RR nf d) nf d h_Model_bad h_Model_regionAt T p1 p2 r rl T' h,
    fun T p1 r rl T'  h => sp_Model_meaning l dC dI ea ev ad km (RR nf d) nf d h_Model_bad h_Model_regionAt h_Model_findTitle h_Model_fail h_Model_meaning h_Model_known h_Model_withAt T p1 r rl T' h,
    fun T p1 p2 r rl T'  h => sp_Model_doesOutlive l dC dI ea ev ad km (RR nf d) nf d h_Model_isLive T p1 p2 r rl T' h,
    fun T p1 p2 r rl T'  h => sp_Model_misfit l dC dI ea ev ad km (RR nf d) nf d h_Model_sameCell h_Model_doesOutlive T p1 p2 r rl T' h,
    fun T p1 p2 p3 r rl T'  h => sp_Model_fit l dC dI ea ev ad km (RR nf d) nf d h_Model_bad h_Model_misfit h_Model_fail T p1 p2 p3 r rl T' h,
    fun T p1 r rl T'  h => sp_Model_seeRegions l dC dI ea ev ad km (RR nf d) nf d T p1 r rl T' h,
    fun T p1 p2 r rl T'  h => sp_Model_regionOfItem l dC dI ea ev ad km (RR nf d) nf d T p1 p2 r rl T' h,
    fun T p1 r rl T'  h => sp_Model_checkHead l dC dI ea ev ad km (RR nf d) nf d h_Model_findTitle h_Model_findFun h_Model_fail h_Model_seeRegions h_Model_bad h_Model_findField h_Model_meaning h_Model_regionOfItem T p1 r rl T' h,
    fun T  r rl T'  h => sp_Model_checkHeads l dC dI ea ev ad km (RR nf d) nf d h_Model_bad h_Model_checkHead h_Model_packed h_Model_findFun h_Model_fail T r rl T' h,
    fun T p1 r rl T'  h => sp_Model_checkFun l dC dI ea ev ad km (RR nf d) nf d h_Model_seeRegions h_Model_regionOfItem h_Model_checkBlock h_Model_bad h_Model_fail h_Model_see_JII T p1 r rl T' h,
    fun T p1 p2 p3 r rl T'  h => sp_Model_see_JII l dC dI ea ev ad km (RR nf d) nf d T p1 p2 p3 r rl T' h,
    fun T  r rl T'  h => sp_Model_stop l dC dI ea ev ad km (RR nf d) nf d T r rl T' h,
    fun T p1 r rl T'  h => sp_Model_checkBlock l dC dI ea ev ad km (RR nf d) nf d h_Model_bad h_Model_checkStep T p1 r rl T' h,
    fun T p1 r rl T'  h => sp_Model_needInt l dC dI ea ev ad km (RR nf d) nf d h_Model_check h_Model_bad h_Model_fail T p1 r rl T' h,
    fun T p1 r rl T'  h => sp_Model_checkStep l dC dI ea ev ad km (RR nf d) nf d h_Model_checkVar h_Model_checkIf h_Model_checkWhile h_Model_checkReturn h_Model_needInt h_Model_stop h_Model_checkRegion h_Model_checkClose h_Model_checkTry h_Model_checkSet h_Model_check T p1 r rl T' h,
    fun T p1 r rl T'  h => sp_Model_checkVar l dC dI ea ev ad km (RR nf d) nf d h_Model_meaning h_Model_bad h_Model_check h_Model_fit h_Model_findVar h_Model_fail h_Model_see_JII h_Model_give T p1 r rl T' h,
    fun T p1 p2 p3 p4 r rl T'  h => sp_Model_give l dC dI ea ev ad km (RR nf d) nf d T p1 p2 p3 p4 r rl T' h,
    fun T p1 r rl T'  h => sp_Model_checkSet l dC dI ea ev ad km (RR nf d) nf d h_Model_check h_Model_bad h_Model_fail h_Model_findVar h_Model_fit h_Model_give T p1 r rl T' h,
    fun T p1 p2 r rl T'  h => sp_Model_asked l dC dI ea ev ad km (RR nf d) nf d h_Model_findVar T p1 p2 r rl T' h,
    fun T p1 r rl T'  h => sp_Model_knowing l dC dI ea ev ad km (RR nf d) nf d T p1 r rl T' h,
    fun T p1 r rl T'  h => sp_Model_checkCondition l dC dI ea ev ad km (RR nf d) nf d h_Model_check h_Model_bad h_Model_isPointer h_Model_fail T p1 r rl T' h,
    fun T p1 r rl T'  h => sp_Model_checkIf l dC dI ea ev ad km (RR nf d) nf d h_Model_checkCondition h_Model_bad h_Model_asked h_Model_knowing h_Model_checkBlock h_Model_meet T p1 r rl T' h,
    fun T p1 p2 p3 p4 p5 r rl T'  h => sp_Model_meet l dC dI ea ev ad km (RR nf d) nf d h_Model_fail T p1 p2 p3 p4 p5 r rl T' h,
    fun T p1 r rl T'  h => sp_Model_given l dC dI ea ev ad km (RR nf d) nf d h_Model_findVar h_Model_given T p1 r rl T' h,
    fun T p1 r rl T'  h => sp_Model_checkWhile l dC dI ea ev ad km (RR nf d) nf d h_Model_given h_Model_checkCondition h_Model_bad h_Model_asked h_Model_knowing h_Model_checkBlock h_Model_fail T p1 r rl T' h,
    fun T p1 r rl T'  h => sp_Model_checkReturn l dC dI ea ev ad km (RR nf d) nf d h_Model_fail h_Model_bad h_Model_stop h_Model_check h_Model_fit T p1 r rl T' h,
    fun T p1 r rl T'  h => sp_Model_checkRegion l dC dI ea ev ad km (RR nf d) nf d h_Model_findRegion h_Model_fail h_Model_bad h_Model_checkBlock T p1 r rl T' h,
    fun T p1 r rl T'  h => sp_Model_checkClose l dC dI ea ev ad km (RR nf d) nf d h_Model_regionAt h_Model_bad h_Model_fail h_Model_isLive T p1 r rl T' h,
    fun T p1 r rl T'  h => sp_Model_checkTry l dC dI ea ev ad km (RR nf d) nf d h_Model_given h_Model_checkBlock h_Model_bad h_Model_meet T p1 r rl T' h,
    fun T p1 r rl T'  h => sp_Model_isLeft l dC dI ea ev ad km (RR nf d) nf d T p1 r rl T' h,
    fun T p1 r rl T'  h => sp_Model_check l dC dI ea ev ad km (RR nf d) nf d h_Model_bad h_Model_isLeft h_Model_checkKind T p1 r rl T' h,
    fun T p1 r rl T'  h => sp_Model_checkKind l dC dI ea ev ad km (RR nf d) nf d h_Model_fail h_Model_checkName h_Model_checkCall h_Model_checkNew h_Model_checkMade h_Model_checkAnd h_Model_check h_Model_bad h_Model_isPointer h_Model_isRow h_Model_checkOperator h_Model_checkThrough h_Model_checkIndex h_Model_known T p1 r rl T' h,
    fun T p1 r rl T'  h => sp_Model_checkName l dC dI ea ev ad km (RR nf d) nf d h_Model_findVar h_Model_fail h_Model_bad h_Model_known T p1 r rl T' h,
    fun T p1 r rl T'  h => sp_Model_checkThrough l dC dI ea ev ad km (RR nf d) nf d h_Model_isPointer h_Model_isTitled h_Model_isLive h_Model_fail h_Model_bad h_Model_findField h_Model_changed T p1 r rl T' h,
    fun T p1 r rl T'  h => sp_Model_checkIndex l dC dI ea ev ad km (RR nf d) nf d h_Model_check h_Model_bad h_Model_isRow h_Model_isLive h_Model_fail T p1 r rl T' h,
    fun T p1 r rl T'  h => sp_Model_checkAnd l dC dI ea ev ad km (RR nf d) nf d h_Model_fail h_Model_check h_Model_bad h_Model_known T p1 r rl T' h,
    fun T p1 r rl T'  h => sp_Model_checkMade l dC dI ea ev ad km (RR nf d) nf d h_Model_liveRegionAt h_Model_bad h_Model_needInt h_Model_check h_Model_fail h_Model_known T p1 r rl T' h,
    fun T p1 r rl T'  h => sp_Model_checkNew l dC dI ea ev ad km (RR nf d) nf d h_Model_liveRegionAt h_Model_bad h_Model_findTitle h_Model_fail h_Model_withAt h_Model_fitAll h_Model_findField h_Model_check h_Model_changed h_Model_fit h_Model_known T p1 r rl T' h,
    fun T p1 p2 p3 r rl T'  h => sp_Model_fitAll l dC dI ea ev ad km (RR nf d) nf d h_Model_bad h_Model_check h_Model_changed h_Model_fit T p1 p2 p3 r rl T' h,
    fun T p1 r rl T'  h => sp_Model_checkCall l dC dI ea ev ad km (RR nf d) nf d h_Model_findFun h_Model_fail h_Model_bad h_Model_withAt h_Model_fitAll h_Model_part h_Model_isLive h_Model_regionOfItem h_Model_doesOutlive h_Model_changed T p1 r rl T' h,
    fun T p1 r rl T'  h => sp_Model_checkOperator l dC dI ea ev ad km (RR nf d) nf d h_Model_check h_Model_bad h_Model_isRow h_Model_isPointer h_Model_sameCell h_Model_doesOutlive h_Model_isLive h_Model_fail T p1 r rl T' h,
    fun T p1 p2 p3 p4 r rl T'  h => sp_Model_lay l dC dI ea ev ad km (RR nf d) nf d T p1 p2 p3 p4 r rl T' h,
    fun T  r rl T'  h => sp_Model_layOut l dC dI ea ev ad km (RR nf d) nf d h_Model_layBlock h_Model_lay T r rl T' h,
    fun T p1 r rl T'  h => sp_Model_layBlock l dC dI ea ev ad km (RR nf d) nf d h_Model_layStep T p1 r rl T' h,
    fun T p1 r rl T'  h => sp_Model_layStep l dC dI ea ev ad km (RR nf d) nf d h_Model_lay h_Model_layExpression h_Model_layBlock h_Model_layPlace T p1 r rl T' h,
    fun T p1 r rl T'  h => sp_Model_layPlace l dC dI ea ev ad km (RR nf d) nf d h_Model_layExpression h_Model_lay T p1 r rl T' h,
    fun T p1 r rl T'  h => sp_Model_wordsOf l dC dI ea ev ad km (RR nf d) nf d h_Model_isRow T p1 r rl T' h,
    fun T p1 r rl T'  h => sp_Model_layExpression l dC dI ea ev ad km (RR nf d) nf d h_Model_isLeft h_Model_layFirst h_Model_layBehind T p1 r rl T' h,
    fun T p1 r rl T'  h => sp_Model_layBehind l dC dI ea ev ad km (RR nf d) nf d h_Model_layExpression h_Model_isRow h_Model_lay T p1 r rl T' h,
    fun T p1 r rl T'  h => sp_Model_layFirst l dC dI ea ev ad km (RR nf d) nf d h_Model_lay h_Model_layExpression h_Model_wordsOf T p1 r rl T' h,
    fun T p1 p2 p3 r rl T'  h => sp_Model_push l dC dI ea ev ad km (RR nf d) nf d T p1 p2 p3 r rl T' h,
    fun T  r rl T'  h => sp_Model_stopAll l dC dI ea ev ad km (RR nf d) nf d T r rl T' h,
    fun T p1 r rl T'  h => sp_Model_begin l dC dI ea ev ad km (RR nf d) nf d T p1 r rl T' h,
    fun T p1 r rl T'  h => sp_Model_shrink l dC dI ea ev ad km (RR nf d) nf d T p1 r rl T' h,
    fun T p1 p2 p3 r rl T'  h => sp_Model_make l dC dI ea ev ad km (RR nf d) nf d h_Model_raise T p1 p2 p3 r rl T' h,
    fun T p1 p2 p3 r rl T'  h => sp_Model_placeOf l dC dI ea ev ad km (RR nf d) nf d T p1 p2 p3 r rl T' h,
    fun T p1 p2 p3 r rl T'  h => sp_Model_pushPlace l dC dI ea ev ad km (RR nf d) nf d h_Model_placeOf h_Model_push T p1 p2 p3 r rl T' h,
    fun T p1 p2 p3 p4 r rl T'  h => sp_Model_put l dC dI ea ev ad km (RR nf d) nf d h_Model_placeOf T p1 p2 p3 p4 r rl T' h,
    fun T p1 r rl T'  h => sp_Model_raise l dC dI ea ev ad km (RR nf d) nf d h_Model_shrink T p1 r rl T' h,
    fun T p1 r rl T'  h => sp_Model_var l dC dI ea ev ad km (RR nf d) nf d T p1 r rl T' h,
    fun T p1 r rl T'  h => sp_Model_regionIndex l dC dI ea ev ad km (RR nf d) nf d T p1 r rl T' h,
    fun T  r rl T'  h => sp_Model_goOn l dC dI ea ev ad km (RR nf d) nf d h_Model_run_IIII T r rl T' h,
    fun T p1 p2 p3 p4 r rl T'  h => sp_Model_run_IIII l dC dI ea ev ad km (RR nf d) nf d h_Model_push h_Model_input_ h_Model_var h_Model_touch h_Model_makeBy h_Model_invoke h_Model_reckon h_Model_back h_Model_raise h_Model_begin h_Model_shrink T p1 p2 p3 p4 r rl T' h,
    fun T  r rl T'  h => sp_Model_input_ l dC dI ea ev ad km (RR nf d) nf d T r rl T' h,
    fun T p1 p2 r rl T'  h => sp_Model_invoke l dC dI ea ev ad km (RR nf d) nf d h_Model_regionIndex T p1 p2 r rl T' h,
    fun T  r rl T'  h => sp_Model_back l dC dI ea ev ad km (RR nf d) nf d h_Model_shrink T r rl T' h,
    fun T p1 p2 p3 p4 r rl T'  h => sp_Model_makeBy l dC dI ea ev ad km (RR nf d) nf d h_Model_regionIndex h_Model_makeRow h_Model_wordsOf h_Model_make h_Model_push h_Model_put T p1 p2 p3 p4 r rl T' h,
    fun T p1 p2 r rl T'  h => sp_Model_makeRow l dC dI ea ev ad km (RR nf d) nf d h_Model_make h_Model_raise h_Model_push h_Model_put T p1 p2 r rl T' h,
    fun T p1 p2 r rl T'  h => sp_Model_reckon l dC dI ea ev ad km (RR nf d) nf d h_Model_raise T p1 p2 r rl T' h,
    fun T p1 p2 p3 r rl T'  h => sp_Model_touch l dC dI ea ev ad km (RR nf d) nf d h_Model_push h_Model_pushPlace h_Model_raise h_Model_put T p1 p2 p3 r rl T' h,
    fun T  r rl T'  h => sp_Model_build l dC dI ea ev ad km (RR nf d) nf d h_Model_stopAll h_Model_program_ h_Model_bad h_Model_checkHeads h_Model_checkFun h_Model_layOut T r rl T' h,
    fun T p1 r rl T'  h => sp_Model_fault l dC dI ea ev ad km (RR nf d) nf d T p1 r rl T' h,
    fun T p1 r rl T'  h => sp_Model_program_I l dC dI ea ev ad km (RR nf d) nf d T p1 r rl T' h,
    fun T p1 p2 r rl T'  h => sp_Model_start l dC dI ea ev ad km (RR nf d) nf d h_Model_stopAll h_Model_begin h_Model_packed h_Model_findFun h_Model_goOn T p1 p2 r rl T' h,
    fun T p1 r rl T'  h => sp_Model_input_I l dC dI ea ev ad km (RR nf d) nf d T p1 r rl T' h,
    fun T p1 r rl T'  h => sp_Model_run_I l dC dI ea ev ad km (RR nf d) nf d h_Model_goOn T p1 r rl T' h,
    fun T p1 r rl T'  h => sp_Model_state l dC dI ea ev ad km (RR nf d) nf d T p1 r rl T' h,
    fun T p1 r rl T'  h => sp_Model_world l dC dI ea ev ad km (RR nf d) nf d T p1 r rl T' h,
    fun T p1 p2 r rl T'  h => sp_Model_region l dC dI ea ev ad km (RR nf d) nf d T p1 p2 r rl T' h,
    fun T p1 r rl T'  h => sp_Model_printed l dC dI ea ev ad km (RR nf d) nf d T p1 r rl T' h⟩
