theorem e_Model_four (nf d : Nat) (T : gSt) (p0 : Int32) : RR nf (d + 1) 0 T [p0] [] = rb_Model_four (RR nf d) nf T p0 := rfl
theorem e_Model_feed (nf d : Nat) (T : gSt) (p0 : Int32) (p1 : Int32) (p2 : Int32) (p3 : Int32) (p4 : Int32) : RR nf (d + 1) 1 T [p0, p1, p2, p3, p4] [] = rb_Model_feed (RR nf d) nf T p0 p1 p2 p3 p4 := rfl
theorem e_Model_end (nf d : Nat) (T : gSt) (p0 : Int32) : RR nf (d + 1) 2 T [p0] [] = rb_Model_end (RR nf d) nf T p0 := rfl
theorem e_Model_packed (nf d : Nat) (T : gSt) (p0 : Int32) : RR nf (d + 1) 7 T [p0] [] = rb_Model_packed (RR nf d) nf T p0.toNatClampNeg := rfl
theorem e_Model_see_I (nf d : Nat) (T : gSt) (p0 : Int32) : RR nf (d + 1) 9 T [p0] [] = rb_Model_see_I (RR nf d) nf T p0 := rfl
theorem e_Model_advance (nf d : Nat) (T : gSt)  : RR nf (d + 1) 10 T [] [] = rb_Model_advance (RR nf d) nf T := rfl
theorem e_Model_fail (nf d : Nat) (T : gSt) (p0 : Int32) (p1 : Int32) : RR nf (d + 1) 13 T [p0, p1] [] = rb_Model_fail (RR nf d) nf T p0 p1 := rfl
theorem e_Model_bad (nf d : Nat) (T : gSt)  : RR nf (d + 1) 14 T [] [] = rb_Model_bad (RR nf d) nf T := rfl
theorem e_Model_wrong (nf d : Nat) (T : gSt)  : RR nf (d + 1) 15 T [] [] = rb_Model_wrong (RR nf d) nf T := rfl
theorem e_Model_isSign (nf d : Nat) (T : gSt) (p0 : Int32) : RR nf (d + 1) 16 T [p0] [] = rb_Model_isSign (RR nf d) nf T p0 := rfl
theorem e_Model_isWord (nf d : Nat) (T : gSt) (p0 : Int32) : RR nf (d + 1) 17 T [p0] [] = rb_Model_isWord (RR nf d) nf T p0.toNatClampNeg := rfl
theorem e_Model_takes (nf d : Nat) (T : gSt) (p0 : Int32) : RR nf (d + 1) 18 T [p0] [] = rb_Model_takes (RR nf d) nf T p0 := rfl
theorem e_Model_takesWord (nf d : Nat) (T : gSt) (p0 : Int32) : RR nf (d + 1) 19 T [p0] [] = rb_Model_takesWord (RR nf d) nf T p0.toNatClampNeg := rfl
theorem e_Model_need (nf d : Nat) (T : gSt) (p0 : Int32) : RR nf (d + 1) 20 T [p0] [] = rb_Model_need (RR nf d) nf T p0 := rfl
theorem e_Model_needName (nf d : Nat) (T : gSt)  : RR nf (d + 1) 21 T [] [] = rb_Model_needName (RR nf d) nf T := rfl
theorem e_Model_needRegion (nf d : Nat) (T : gSt)  : RR nf (d + 1) 22 T [] [] = rb_Model_needRegion (RR nf d) nf T := rfl
theorem e_Model_program_ (nf d : Nat) (T : gSt)  : RR nf (d + 1) 23 T [] [] = rb_Model_program_ (RR nf d) nf T := rfl
theorem e_Model_readItem (nf d : Nat) (T : gSt) (p0 : Int32) : RR nf (d + 1) 24 T [p0] [] = rb_Model_readItem (RR nf d) nf T p0 := rfl
theorem e_Model_readField (nf d : Nat) (T : gSt)  : RR nf (d + 1) 25 T [] [] = rb_Model_readField (RR nf d) nf T := rfl
theorem e_Model_readHead (nf d : Nat) (T : gSt)  : RR nf (d + 1) 26 T [] [] = rb_Model_readHead (RR nf d) nf T := rfl
theorem e_Model_readWheres (nf d : Nat) (T : gSt)  : RR nf (d + 1) 27 T [] [] = rb_Model_readWheres (RR nf d) nf T := rfl
theorem e_Model_type (nf d : Nat) (T : gSt) (p0 : Int32) : RR nf (d + 1) 28 T [p0] [] = rb_Model_type (RR nf d) nf T p0 := rfl
theorem e_Model_readUses (nf d : Nat) (T : gSt)  : RR nf (d + 1) 29 T [] [] = rb_Model_readUses (RR nf d) nf T := rfl
theorem e_Model_node (nf d : Nat) (T : gSt) (p0 : Int32) (p1 : Int32) : RR nf (d + 1) 30 T [p0, p1] [] = rb_Model_node (RR nf d) nf T p0 p1 := rfl
theorem e_Model_block (nf d : Nat) (T : gSt) (p0 : Int32) : RR nf (d + 1) 31 T [p0] [] = rb_Model_block (RR nf d) nf T p0 := rfl
theorem e_Model_step (nf d : Nat) (T : gSt) (p0 : Int32) : RR nf (d + 1) 32 T [p0] [] = rb_Model_step (RR nf d) nf T p0 := rfl
theorem e_Model_readVar (nf d : Nat) (T : gSt) (p0 : Int32) (p1 : Int32) : RR nf (d + 1) 33 T [p0, p1] [] = rb_Model_readVar (RR nf d) nf T p0 p1 := rfl
theorem e_Model_operator (nf d : Nat) (T : gSt)  : RR nf (d + 1) 34 T [] [] = rb_Model_operator (RR nf d) nf T := rfl
theorem e_Model_expression (nf d : Nat) (T : gSt) (p0 : Int32) : RR nf (d + 1) 35 T [p0] [] = rb_Model_expression (RR nf d) nf T p0 := rfl
theorem e_Model_term (nf d : Nat) (T : gSt) (p0 : Int32) : RR nf (d + 1) 36 T [p0] [] = rb_Model_term (RR nf d) nf T p0 := rfl
theorem e_Model_arguments (nf d : Nat) (T : gSt) (p0 : Int32) (p1 : Int32) (p2 : Int32) : RR nf (d + 1) 37 T [p0, p1, p2] [] = rb_Model_arguments (RR nf d) nf T p0 p1 p2 := rfl
theorem e_Model_primary (nf d : Nat) (T : gSt) (p0 : Int32) : RR nf (d + 1) 38 T [p0] [] = rb_Model_primary (RR nf d) nf T p0 := rfl
theorem e_Model_readNamed (nf d : Nat) (T : gSt) (p0 : Int32) (p1 : Int32) : RR nf (d + 1) 39 T [p0, p1] [] = rb_Model_readNamed (RR nf d) nf T p0 p1 := rfl
theorem e_Model_readNew (nf d : Nat) (T : gSt) (p0 : Int32) (p1 : Int32) : RR nf (d + 1) 40 T [p0, p1] [] = rb_Model_readNew (RR nf d) nf T p0 p1 := rfl
theorem e_Model_known (nf d : Nat) (T : gSt) (p0 : Int32) (p1 : Int32) (p2 : Int32) (p3 : Int32) (p4 : Int32) : RR nf (d + 1) 41 T [p0, p1, p2, p3, p4] [] = rb_Model_known (RR nf d) nf T p0 p1 p2 p3 p4 := rfl
theorem e_Model_part (nf d : Nat) (T : gSt) (p0 : Int32) (p1 : Int32) : RR nf (d + 1) 42 T [p0, p1] [] = rb_Model_part (RR nf d) nf T p0 p1 := rfl
theorem e_Model_changed (nf d : Nat) (T : gSt) (p0 : Int32) (p1 : Int32) : RR nf (d + 1) 43 T [p0, p1] [] = rb_Model_changed (RR nf d) nf T p0 p1 := rfl
theorem e_Model_isPointer (nf d : Nat) (T : gSt) (p0 : Int32) : RR nf (d + 1) 44 T [p0] [] = rb_Model_isPointer (RR nf d) nf T p0 := rfl
theorem e_Model_isRow (nf d : Nat) (T : gSt) (p0 : Int32) : RR nf (d + 1) 45 T [p0] [] = rb_Model_isRow (RR nf d) nf T p0 := rfl
theorem e_Model_isTitled (nf d : Nat) (T : gSt) (p0 : Int32) : RR nf (d + 1) 46 T [p0] [] = rb_Model_isTitled (RR nf d) nf T p0 := rfl
theorem e_Model_sameCell (nf d : Nat) (T : gSt) (p0 : Int32) (p1 : Int32) : RR nf (d + 1) 47 T [p0, p1] [] = rb_Model_sameCell (RR nf d) nf T p0 p1 := rfl
theorem e_Model_findTitle (nf d : Nat) (T : gSt) (q0 : Int64) : RR nf (d + 1) 48 T [] [q0] = rb_Model_findTitle (RR nf d) nf T q0 := rfl
theorem e_Model_findFun (nf d : Nat) (T : gSt) (q0 : Int64) : RR nf (d + 1) 49 T [] [q0] = rb_Model_findFun (RR nf d) nf T q0 := rfl
theorem e_Model_findField (nf d : Nat) (T : gSt) (p0 : Int32) (q0 : Int64) : RR nf (d + 1) 50 T [p0] [q0] = rb_Model_findField (RR nf d) nf T p0 q0 := rfl
theorem e_Model_findVar (nf d : Nat) (T : gSt) (q0 : Int64) : RR nf (d + 1) 51 T [] [q0] = rb_Model_findVar (RR nf d) nf T q0 := rfl
theorem e_Model_findRegion (nf d : Nat) (T : gSt) (q0 : Int64) : RR nf (d + 1) 52 T [] [q0] = rb_Model_findRegion (RR nf d) nf T q0 := rfl
theorem e_Model_regionAt (nf d : Nat) (T : gSt) (p0 : Int32) : RR nf (d + 1) 53 T [p0] [] = rb_Model_regionAt (RR nf d) nf T p0 := rfl
theorem e_Model_isLive (nf d : Nat) (T : gSt) (p0 : Int32) : RR nf (d + 1) 54 T [p0] [] = rb_Model_isLive (RR nf d) nf T p0 := rfl
theorem e_Model_liveRegionAt (nf d : Nat) (T : gSt) (p0 : Int32) : RR nf (d + 1) 55 T [p0] [] = rb_Model_liveRegionAt (RR nf d) nf T p0 := rfl
theorem e_Model_withAt (nf d : Nat) (T : gSt) (p0 : Int32) (p1 : Int32) : RR nf (d + 1) 56 T [p0, p1] [] = rb_Model_withAt (RR nf d) nf T p0 p1 := rfl
theorem e_Model_meaning (nf d : Nat) (T : gSt) (p0 : Int32) : RR nf (d + 1) 57 T [p0] [] = rb_Model_meaning (RR nf d) nf T p0 := rfl
theorem e_Model_doesOutlive (nf d : Nat) (T : gSt) (p0 : Int32) (p1 : Int32) : RR nf (d + 1) 58 T [p0, p1] [] = rb_Model_doesOutlive (RR nf d) nf T p0 p1 := rfl
theorem e_Model_misfit (nf d : Nat) (T : gSt) (p0 : Int32) (p1 : Int32) : RR nf (d + 1) 59 T [p0, p1] [] = rb_Model_misfit (RR nf d) nf T p0 p1 := rfl
theorem e_Model_fit (nf d : Nat) (T : gSt) (p0 : Int32) (p1 : Int32) (p2 : Int32) : RR nf (d + 1) 60 T [p0, p1, p2] [] = rb_Model_fit (RR nf d) nf T p0 p1 p2 := rfl
theorem e_Model_seeRegions (nf d : Nat) (T : gSt) (p0 : Int32) : RR nf (d + 1) 61 T [p0] [] = rb_Model_seeRegions (RR nf d) nf T p0 := rfl
theorem e_Model_regionOfItem (nf d : Nat) (T : gSt) (p0 : Int32) (q0 : Int64) : RR nf (d + 1) 62 T [p0] [q0] = rb_Model_regionOfItem (RR nf d) nf T p0 q0 := rfl
theorem e_Model_checkHead (nf d : Nat) (T : gSt) (p0 : Int32) : RR nf (d + 1) 63 T [p0] [] = rb_Model_checkHead (RR nf d) nf T p0 := rfl
theorem e_Model_checkHeads (nf d : Nat) (T : gSt)  : RR nf (d + 1) 64 T [] [] = rb_Model_checkHeads (RR nf d) nf T := rfl
theorem e_Model_checkFun (nf d : Nat) (T : gSt) (p0 : Int32) : RR nf (d + 1) 65 T [p0] [] = rb_Model_checkFun (RR nf d) nf T p0 := rfl
theorem e_Model_see_JII (nf d : Nat) (T : gSt) (q0 : Int64) (p0 : Int32) (p1 : Int32) : RR nf (d + 1) 66 T [p0, p1] [q0] = rb_Model_see_JII (RR nf d) nf T q0 p0 p1 := rfl
theorem e_Model_stop (nf d : Nat) (T : gSt)  : RR nf (d + 1) 67 T [] [] = rb_Model_stop (RR nf d) nf T := rfl
theorem e_Model_checkBlock (nf d : Nat) (T : gSt) (p0 : Int32) : RR nf (d + 1) 68 T [p0] [] = rb_Model_checkBlock (RR nf d) nf T p0 := rfl
theorem e_Model_needInt (nf d : Nat) (T : gSt) (p0 : Int32) : RR nf (d + 1) 69 T [p0] [] = rb_Model_needInt (RR nf d) nf T p0 := rfl
theorem e_Model_checkStep (nf d : Nat) (T : gSt) (p0 : Int32) : RR nf (d + 1) 70 T [p0] [] = rb_Model_checkStep (RR nf d) nf T p0 := rfl
theorem e_Model_checkVar (nf d : Nat) (T : gSt) (p0 : Int32) : RR nf (d + 1) 71 T [p0] [] = rb_Model_checkVar (RR nf d) nf T p0 := rfl
theorem e_Model_give (nf d : Nat) (T : gSt) (p0 : Int32) (p1 : Int32) (p2 : Int32) (p3 : Int32) : RR nf (d + 1) 72 T [p0, p1, p2, p3] [] = rb_Model_give (RR nf d) nf T p0 p1 p2 p3 := rfl
theorem e_Model_checkSet (nf d : Nat) (T : gSt) (p0 : Int32) : RR nf (d + 1) 73 T [p0] [] = rb_Model_checkSet (RR nf d) nf T p0 := rfl
theorem e_Model_asked (nf d : Nat) (T : gSt) (p0 : Int32) (p1 : Int32) : RR nf (d + 1) 74 T [p0, p1] [] = rb_Model_asked (RR nf d) nf T p0 p1 := rfl
theorem e_Model_knowing (nf d : Nat) (T : gSt) (p0 : Int32) : RR nf (d + 1) 75 T [p0] [] = rb_Model_knowing (RR nf d) nf T p0 := rfl
theorem e_Model_checkCondition (nf d : Nat) (T : gSt) (p0 : Int32) : RR nf (d + 1) 76 T [p0] [] = rb_Model_checkCondition (RR nf d) nf T p0 := rfl
theorem e_Model_checkIf (nf d : Nat) (T : gSt) (p0 : Int32) : RR nf (d + 1) 77 T [p0] [] = rb_Model_checkIf (RR nf d) nf T p0 := rfl
theorem e_Model_meet (nf d : Nat) (T : gSt) (p0 : Int32) (p1 : Int32) (p2 : Int32) (p3 : Int32) (p4 : Int32) : RR nf (d + 1) 78 T [p0, p1, p2, p3, p4] [] = rb_Model_meet (RR nf d) nf T p0 p1 p2 p3 p4 := rfl
theorem e_Model_given (nf d : Nat) (T : gSt) (p0 : Int32) : RR nf (d + 1) 79 T [p0] [] = rb_Model_given (RR nf d) nf T p0 := rfl
theorem e_Model_checkWhile (nf d : Nat) (T : gSt) (p0 : Int32) : RR nf (d + 1) 80 T [p0] [] = rb_Model_checkWhile (RR nf d) nf T p0 := rfl
theorem e_Model_checkReturn (nf d : Nat) (T : gSt) (p0 : Int32) : RR nf (d + 1) 81 T [p0] [] = rb_Model_checkReturn (RR nf d) nf T p0 := rfl
theorem e_Model_checkRegion (nf d : Nat) (T : gSt) (p0 : Int32) : RR nf (d + 1) 82 T [p0] [] = rb_Model_checkRegion (RR nf d) nf T p0 := rfl
theorem e_Model_checkClose (nf d : Nat) (T : gSt) (p0 : Int32) : RR nf (d + 1) 83 T [p0] [] = rb_Model_checkClose (RR nf d) nf T p0 := rfl
theorem e_Model_checkTry (nf d : Nat) (T : gSt) (p0 : Int32) : RR nf (d + 1) 84 T [p0] [] = rb_Model_checkTry (RR nf d) nf T p0 := rfl
theorem e_Model_isLeft (nf d : Nat) (T : gSt) (p0 : Int32) : RR nf (d + 1) 85 T [p0] [] = rb_Model_isLeft (RR nf d) nf T p0 := rfl
theorem e_Model_check (nf d : Nat) (T : gSt) (p0 : Int32) : RR nf (d + 1) 86 T [p0] [] = rb_Model_check (RR nf d) nf T p0 := rfl
theorem e_Model_checkKind (nf d : Nat) (T : gSt) (p0 : Int32) : RR nf (d + 1) 87 T [p0] [] = rb_Model_checkKind (RR nf d) nf T p0 := rfl
theorem e_Model_checkName (nf d : Nat) (T : gSt) (p0 : Int32) : RR nf (d + 1) 88 T [p0] [] = rb_Model_checkName (RR nf d) nf T p0 := rfl
theorem e_Model_checkThrough (nf d : Nat) (T : gSt) (p0 : Int32) : RR nf (d + 1) 89 T [p0] [] = rb_Model_checkThrough (RR nf d) nf T p0 := rfl
theorem e_Model_checkIndex (nf d : Nat) (T : gSt) (p0 : Int32) : RR nf (d + 1) 90 T [p0] [] = rb_Model_checkIndex (RR nf d) nf T p0 := rfl
theorem e_Model_checkAnd (nf d : Nat) (T : gSt) (p0 : Int32) : RR nf (d + 1) 91 T [p0] [] = rb_Model_checkAnd (RR nf d) nf T p0 := rfl
theorem e_Model_checkMade (nf d : Nat) (T : gSt) (p0 : Int32) : RR nf (d + 1) 92 T [p0] [] = rb_Model_checkMade (RR nf d) nf T p0 := rfl
theorem e_Model_checkNew (nf d : Nat) (T : gSt) (p0 : Int32) : RR nf (d + 1) 93 T [p0] [] = rb_Model_checkNew (RR nf d) nf T p0 := rfl
theorem e_Model_fitAll (nf d : Nat) (T : gSt) (p0 : Int32) (p1 : Int32) (p2 : Int32) : RR nf (d + 1) 94 T [p0, p1, p2] [] = rb_Model_fitAll (RR nf d) nf T p0 p1 p2 := rfl
theorem e_Model_checkCall (nf d : Nat) (T : gSt) (p0 : Int32) : RR nf (d + 1) 95 T [p0] [] = rb_Model_checkCall (RR nf d) nf T p0 := rfl
theorem e_Model_checkOperator (nf d : Nat) (T : gSt) (p0 : Int32) : RR nf (d + 1) 96 T [p0] [] = rb_Model_checkOperator (RR nf d) nf T p0 := rfl
theorem e_Model_lay (nf d : Nat) (T : gSt) (p0 : Int32) (p1 : Int32) (p2 : Int32) (p3 : Int32) : RR nf (d + 1) 97 T [p0, p1, p2, p3] [] = rb_Model_lay (RR nf d) nf T p0 p1 p2 p3 := rfl
theorem e_Model_layOut (nf d : Nat) (T : gSt)  : RR nf (d + 1) 98 T [] [] = rb_Model_layOut (RR nf d) nf T := rfl
theorem e_Model_layBlock (nf d : Nat) (T : gSt) (p0 : Int32) : RR nf (d + 1) 99 T [p0] [] = rb_Model_layBlock (RR nf d) nf T p0 := rfl
theorem e_Model_layStep (nf d : Nat) (T : gSt) (p0 : Int32) : RR nf (d + 1) 100 T [p0] [] = rb_Model_layStep (RR nf d) nf T p0 := rfl
theorem e_Model_layPlace (nf d : Nat) (T : gSt) (p0 : Int32) : RR nf (d + 1) 101 T [p0] [] = rb_Model_layPlace (RR nf d) nf T p0 := rfl
theorem e_Model_wordsOf (nf d : Nat) (T : gSt) (p0 : Int32) : RR nf (d + 1) 102 T [p0] [] = rb_Model_wordsOf (RR nf d) nf T p0 := rfl
theorem e_Model_layExpression (nf d : Nat) (T : gSt) (p0 : Int32) : RR nf (d + 1) 103 T [p0] [] = rb_Model_layExpression (RR nf d) nf T p0 := rfl
theorem e_Model_layBehind (nf d : Nat) (T : gSt) (p0 : Int32) : RR nf (d + 1) 104 T [p0] [] = rb_Model_layBehind (RR nf d) nf T p0 := rfl
theorem e_Model_layFirst (nf d : Nat) (T : gSt) (p0 : Int32) : RR nf (d + 1) 105 T [p0] [] = rb_Model_layFirst (RR nf d) nf T p0 := rfl
theorem e_Model_push (nf d : Nat) (T : gSt) (p0 : Int32) (p1 : Int32) (p2 : Int32) : RR nf (d + 1) 106 T [p0, p1, p2] [] = rb_Model_push (RR nf d) nf T p0 p1 p2 := rfl
theorem e_Model_stopAll (nf d : Nat) (T : gSt)  : RR nf (d + 1) 107 T [] [] = rb_Model_stopAll (RR nf d) nf T := rfl
theorem e_Model_begin (nf d : Nat) (T : gSt) (p0 : Int32) : RR nf (d + 1) 108 T [p0] [] = rb_Model_begin (RR nf d) nf T p0 := rfl
theorem e_Model_shrink (nf d : Nat) (T : gSt) (p0 : Int32) : RR nf (d + 1) 109 T [p0] [] = rb_Model_shrink (RR nf d) nf T p0 := rfl
theorem e_Model_make (nf d : Nat) (T : gSt) (p0 : Int32) (q0 : Int64) (p1 : Int32) : RR nf (d + 1) 110 T [p0, p1] [q0] = rb_Model_make (RR nf d) nf T p0 q0 p1 := rfl
theorem e_Model_placeOf (nf d : Nat) (T : gSt) (p0 : Int32) (p1 : Int32) (p2 : Int32) : RR nf (d + 1) 111 T [p0, p1, p2] [] = rb_Model_placeOf (RR nf d) nf T p0 p1 p2 := rfl
theorem e_Model_pushPlace (nf d : Nat) (T : gSt) (p0 : Int32) (p1 : Int32) (p2 : Int32) : RR nf (d + 1) 112 T [p0, p1, p2] [] = rb_Model_pushPlace (RR nf d) nf T p0 p1 p2 := rfl
theorem e_Model_put (nf d : Nat) (T : gSt) (p0 : Int32) (p1 : Int32) (p2 : Int32) (p3 : Int32) : RR nf (d + 1) 113 T [p0, p1, p2, p3] [] = rb_Model_put (RR nf d) nf T p0 p1 p2 p3 := rfl
theorem e_Model_raise (nf d : Nat) (T : gSt) (p0 : Int32) : RR nf (d + 1) 114 T [p0] [] = rb_Model_raise (RR nf d) nf T p0 := rfl
theorem e_Model_var (nf d : Nat) (T : gSt) (p0 : Int32) : RR nf (d + 1) 115 T [p0] [] = rb_Model_var (RR nf d) nf T p0 := rfl
theorem e_Model_regionIndex (nf d : Nat) (T : gSt) (p0 : Int32) : RR nf (d + 1) 116 T [p0] [] = rb_Model_regionIndex (RR nf d) nf T p0 := rfl
theorem e_Model_goOn (nf d : Nat) (T : gSt)  : RR nf (d + 1) 117 T [] [] = rb_Model_goOn (RR nf d) nf T := rfl
theorem e_Model_run_IIII (nf d : Nat) (T : gSt) (p0 : Int32) (p1 : Int32) (p2 : Int32) (p3 : Int32) : RR nf (d + 1) 118 T [p0, p1, p2, p3] [] = rb_Model_run_IIII (RR nf d) nf T p0 p1 p2 p3 := rfl
theorem e_Model_input_ (nf d : Nat) (T : gSt)  : RR nf (d + 1) 119 T [] [] = rb_Model_input_ (RR nf d) nf T := rfl
theorem e_Model_invoke (nf d : Nat) (T : gSt) (p0 : Int32) (p1 : Int32) : RR nf (d + 1) 120 T [p0, p1] [] = rb_Model_invoke (RR nf d) nf T p0 p1 := rfl
theorem e_Model_back (nf d : Nat) (T : gSt)  : RR nf (d + 1) 121 T [] [] = rb_Model_back (RR nf d) nf T := rfl
theorem e_Model_makeBy (nf d : Nat) (T : gSt) (p0 : Int32) (p1 : Int32) (p2 : Int32) (p3 : Int32) : RR nf (d + 1) 122 T [p0, p1, p2, p3] [] = rb_Model_makeBy (RR nf d) nf T p0 p1 p2 p3 := rfl
theorem e_Model_makeRow (nf d : Nat) (T : gSt) (p0 : Int32) (p1 : Int32) : RR nf (d + 1) 123 T [p0, p1] [] = rb_Model_makeRow (RR nf d) nf T p0 p1 := rfl
theorem e_Model_reckon (nf d : Nat) (T : gSt) (p0 : Int32) (p1 : Int32) : RR nf (d + 1) 124 T [p0, p1] [] = rb_Model_reckon (RR nf d) nf T p0 p1 := rfl
theorem e_Model_touch (nf d : Nat) (T : gSt) (p0 : Int32) (p1 : Int32) (p2 : Int32) : RR nf (d + 1) 125 T [p0, p1, p2] [] = rb_Model_touch (RR nf d) nf T p0 p1 p2 := rfl
theorem e_Model_build (nf d : Nat) (T : gSt)  : RR nf (d + 1) 126 T [] [] = rb_Model_build (RR nf d) nf T := rfl
theorem e_Model_fault (nf d : Nat) (T : gSt) (p0 : Int32) : RR nf (d + 1) 127 T [p0] [] = rb_Model_fault (RR nf d) nf T p0 := rfl
theorem e_Model_program_I (nf d : Nat) (T : gSt) (p0 : Int32) : RR nf (d + 1) 128 T [p0] [] = rb_Model_program_I (RR nf d) nf T p0 := rfl
theorem e_Model_start (nf d : Nat) (T : gSt) (p0 : Int32) (p1 : Int32) : RR nf (d + 1) 129 T [p0, p1] [] = rb_Model_start (RR nf d) nf T p0 p1 := rfl
theorem e_Model_input_I (nf d : Nat) (T : gSt) (p0 : Int32) : RR nf (d + 1) 130 T [p0] [] = rb_Model_input_I (RR nf d) nf T p0 := rfl
theorem e_Model_run_I (nf d : Nat) (T : gSt) (p0 : Int32) : RR nf (d + 1) 131 T [p0] [] = rb_Model_run_I (RR nf d) nf T p0 := rfl
theorem e_Model_state (nf d : Nat) (T : gSt) (p0 : Int32) : RR nf (d + 1) 132 T [p0] [] = rb_Model_state (RR nf d) nf T p0 := rfl
theorem e_Model_world (nf d : Nat) (T : gSt) (p0 : Int32) : RR nf (d + 1) 133 T [p0] [] = rb_Model_world (RR nf d) nf T p0 := rfl
theorem e_Model_region (nf d : Nat) (T : gSt) (p0 : Int32) (p1 : Int32) : RR nf (d + 1) 134 T [p0, p1] [] = rb_Model_region (RR nf d) nf T p0 p1 := rfl
theorem e_Model_printed (nf d : Nat) (T : gSt) (p0 : Int32) : RR nf (d + 1) 135 T [p0] [] = rb_Model_printed (RR nf d) nf T p0 := rfl
theorem e_House_feed (nf d : Nat) (T : gSt) (p0 : Int32) (p1 : Int32) (p2 : Int32) (p3 : Int32) (p4 : Int32) : PP nf (d + 1) 0 T [p0, p1, p2, p3, p4] [] = rb_House_feed (PP nf d) nf T p0 p1 p2 p3 p4 := rfl
theorem e_House_addFour (nf d : Nat) (T : gSt) (p0 : Int32) : PP nf (d + 1) 1 T [p0] [] = rb_House_addFour (PP nf d) nf T p0 := rfl
theorem e_House_end (nf d : Nat) (T : gSt) (p0 : Int32) : PP nf (d + 1) 2 T [p0] [] = rb_House_end (PP nf d) nf T p0 := rfl
theorem e_House_build (nf d : Nat) (T : gSt)  : PP nf (d + 1) 3 T [] [] = rb_House_build (PP nf d) nf T := rfl
theorem e_House_fault (nf d : Nat) (T : gSt) (p0 : Int32) : PP nf (d + 1) 4 T [p0] [] = rb_House_fault (PP nf d) nf T p0 := rfl
theorem e_House_program (nf d : Nat) (T : gSt) (p0 : Int32) : PP nf (d + 1) 5 T [p0] [] = rb_House_program (PP nf d) nf T p0 := rfl
theorem e_House_start (nf d : Nat) (T : gSt) (p0 : Int32) (p1 : Int32) : PP nf (d + 1) 6 T [p0, p1] [] = rb_House_start (PP nf d) nf T p0 p1 := rfl
theorem e_House_input (nf d : Nat) (T : gSt) (p0 : Int32) : PP nf (d + 1) 7 T [p0] [] = rb_House_input (PP nf d) nf T p0 := rfl
theorem e_House_run (nf d : Nat) (T : gSt) (p0 : Int32) : PP nf (d + 1) 8 T [p0] [] = rb_House_run (PP nf d) nf T p0 := rfl
theorem e_House_state (nf d : Nat) (T : gSt) (p0 : Int32) : PP nf (d + 1) 9 T [p0] [] = rb_House_state (PP nf d) nf T p0 := rfl
theorem e_House_world (nf d : Nat) (T : gSt) (p0 : Int32) : PP nf (d + 1) 10 T [p0] [] = rb_House_world (PP nf d) nf T p0 := rfl
theorem e_House_region (nf d : Nat) (T : gSt) (p0 : Int32) (p1 : Int32) : PP nf (d + 1) 11 T [p0, p1] [] = rb_House_region (PP nf d) nf T p0 p1 := rfl
theorem e_House_printed (nf d : Nat) (T : gSt) (p0 : Int32) : PP nf (d + 1) 12 T [p0] [] = rb_House_printed (PP nf d) nf T p0 := rfl
theorem e_Source_scan (nf d : Nat) (T : gSt) (p0 : Int32) : PP nf (d + 1) 14 T [p0] [] = rb_Source_scan (PP nf d) nf T p0 := rfl
theorem e_Source_kindAt (nf d : Nat) (T : gSt) (p0 : Int32) : PP nf (d + 1) 25 T [p0] [] = rb_Source_kindAt (PP nf d) nf T p0 := rfl
theorem e_Source_startOf (nf d : Nat) (T : gSt) (p0 : Int32) : PP nf (d + 1) 26 T [p0] [] = rb_Source_startOf (PP nf d) nf T p0 := rfl
theorem e_Source_nameAt (nf d : Nat) (T : gSt) (p0 : Int32) : PP nf (d + 1) 27 T [p0] [] = rb_Source_nameAt (PP nf d) nf T p0 := rfl
theorem e_Source_addNode (nf d : Nat) (T : gSt) (p0 : Int32) (p1 : Int32) : PP nf (d + 1) 28 T [p0, p1] [] = rb_Source_addNode (PP nf d) nf T p0 p1 := rfl
theorem e_Source_bare (nf d : Nat) (T : gSt) (p0 : Int32) : PP nf (d + 1) 29 T [p0] [] = rb_Source_bare (PP nf d) nf T p0 := rfl
theorem e_Source_bareTerm (nf d : Nat) (T : gSt) (p0 : Int32) : PP nf (d + 1) 30 T [p0] [] = rb_Source_bareTerm (PP nf d) nf T p0 := rfl
theorem e_Source_isBareParen (nf d : Nat) (T : gSt) (p0 : Int32) : PP nf (d + 1) 31 T [p0] [] = rb_Source_isBareParen (PP nf d) nf T p0 := rfl
theorem e_Source_lastTail (nf d : Nat) (T : gSt) (p0 : Int32) : PP nf (d + 1) 32 T [p0] [] = rb_Source_lastTail (PP nf d) nf T p0 := rfl
theorem e_Source_beginOf (nf d : Nat) (T : gSt) (p0 : Int32) : PP nf (d + 1) 33 T [p0] [] = rb_Source_beginOf (PP nf d) nf T p0 := rfl
theorem e_Source_countPeers (nf d : Nat) (T : gSt) (p0 : Int32) : PP nf (d + 1) 34 T [p0] [] = rb_Source_countPeers (PP nf d) nf T p0 := rfl
theorem e_Source_countRegions (nf d : Nat) (T : gSt) (p0 : Int32) : PP nf (d + 1) 35 T [p0] [] = rb_Source_countRegions (PP nf d) nf T p0 := rfl
theorem e_Items_tokOfPart (nf d : Nat) (T : gSt) (p0 : Int32) (p1 : Int32) : PP nf (d + 1) 36 T [p0, p1] [] = rb_Items_tokOfPart (PP nf d) nf T p0 p1 := rfl
theorem e_Items_typeOfPart (nf d : Nat) (T : gSt) (p0 : Int32) (p1 : Int32) : PP nf (d + 1) 37 T [p0, p1] [] = rb_Items_typeOfPart (PP nf d) nf T p0 p1 := rfl
theorem e_Items_placeOfPart (nf d : Nat) (T : gSt) (p0 : Int32) (p1 : Int32) : PP nf (d + 1) 38 T [p0, p1] [] = rb_Items_placeOfPart (PP nf d) nf T p0 p1 := rfl
theorem e_Items_addPart (nf d : Nat) (T : gSt) (p0 : Int32) (p1 : Int32) : PP nf (d + 1) 39 T [p0, p1] [] = rb_Items_addPart (PP nf d) nf T p0 p1 := rfl
theorem e_Items_setPart (nf d : Nat) (T : gSt) (p0 : Int32) (p1 : Int32) (p2 : Int32) (p3 : Int32) : PP nf (d + 1) 40 T [p0, p1, p2, p3] [] = rb_Items_setPart (PP nf d) nf T p0 p1 p2 p3 := rfl
theorem e_Items_addPair (nf d : Nat) (T : gSt) (p0 : Int32) (p1 : Int32) (p2 : Int32) : PP nf (d + 1) 41 T [p0, p1, p2] [] = rb_Items_addPair (PP nf d) nf T p0 p1 p2 := rfl
theorem e_Items_upperOf (nf d : Nat) (T : gSt) (p0 : Int32) (p1 : Int32) : PP nf (d + 1) 42 T [p0, p1] [] = rb_Items_upperOf (PP nf d) nf T p0 p1 := rfl
theorem e_Items_lowerOf (nf d : Nat) (T : gSt) (p0 : Int32) (p1 : Int32) : PP nf (d + 1) 43 T [p0, p1] [] = rb_Items_lowerOf (PP nf d) nf T p0 p1 := rfl
theorem e_Items_isPart (nf d : Nat) (T : gSt) (p0 : Int32) (p1 : Int32) : PP nf (d + 1) 44 T [p0, p1] [] = rb_Items_isPart (PP nf d) nf T p0 p1 := rfl
theorem e_Items_find (nf d : Nat) (T : gSt) (q0 : Int64) (p0 : Int32) : PP nf (d + 1) 45 T [p0] [q0] = rb_Items_find (PP nf d) nf T q0 p0 := rfl
theorem e_Code_clear (nf d : Nat) (T : gSt)  : PP nf (d + 1) 46 T [] [] = rb_Code_clear (PP nf d) nf T := rfl
theorem e_Code_note (nf d : Nat) (T : gSt) (p0 : Int32) (p1 : Int32) : PP nf (d + 1) 47 T [p0, p1] [] = rb_Code_note (PP nf d) nf T p0 p1 := rfl
theorem e_Code_isSound (nf d : Nat) (T : gSt)  : PP nf (d + 1) 48 T [] [] = rb_Code_isSound (PP nf d) nf T := rfl
theorem e_Code_tally (nf d : Nat) (T : gSt) (p0 : Int32) : PP nf (d + 1) 49 T [p0] [] = rb_Code_tally (PP nf d) nf T p0 := rfl
theorem e_Code_count (nf d : Nat) (T : gSt)  : PP nf (d + 1) 50 T [] [] = rb_Code_count (PP nf d) nf T := rfl
theorem e_Code_emit (nf d : Nat) (T : gSt) (p0 : Int32) (p1 : Int32) (p2 : Int32) : PP nf (d + 1) 51 T [p0, p1, p2] [] = rb_Code_emit (PP nf d) nf T p0 p1 p2 := rfl
theorem e_Code_aim (nf d : Nat) (T : gSt) (p0 : Int32) : PP nf (d + 1) 52 T [p0] [] = rb_Code_aim (PP nf d) nf T p0 := rfl
theorem e_Code_has (nf d : Nat) (T : gSt) (p0 : Int32) : PP nf (d + 1) 53 T [p0] [] = rb_Code_has (PP nf d) nf T p0 := rfl
theorem e_Code_opAt (nf d : Nat) (T : gSt) (p0 : Int32) : PP nf (d + 1) 54 T [p0] [] = rb_Code_opAt (PP nf d) nf T p0 := rfl
theorem e_Code_firstAt (nf d : Nat) (T : gSt) (p0 : Int32) : PP nf (d + 1) 55 T [p0] [] = rb_Code_firstAt (PP nf d) nf T p0 := rfl
theorem e_Code_secondAt (nf d : Nat) (T : gSt) (p0 : Int32) : PP nf (d + 1) 56 T [p0] [] = rb_Code_secondAt (PP nf d) nf T p0 := rfl
theorem e_Parser_parse (nf d : Nat) (T : gSt)  : PP nf (d + 1) 57 T [] [] = rb_Parser_parse (PP nf d) nf T := rfl
theorem e_Parser_advance (nf d : Nat) (T : gSt)  : PP nf (d + 1) 58 T [] [] = rb_Parser_advance (PP nf d) nf T := rfl
theorem e_Parser_accept (nf d : Nat) (T : gSt) (p0 : Int32) : PP nf (d + 1) 59 T [p0] [] = rb_Parser_accept (PP nf d) nf T p0 := rfl
theorem e_Parser_need (nf d : Nat) (T : gSt) (p0 : Int32) : PP nf (d + 1) 60 T [p0] [] = rb_Parser_need (PP nf d) nf T p0 := rfl
theorem e_Parser_stop (nf d : Nat) (T : gSt)  : PP nf (d + 1) 61 T [] [] = rb_Parser_stop (PP nf d) nf T := rfl
theorem e_Parser_parseHead (nf d : Nat) (T : gSt) (p0 : Int32) : PP nf (d + 1) 62 T [p0] [] = rb_Parser_parseHead (PP nf d) nf T p0 := rfl
theorem e_Parser_parseRegions (nf d : Nat) (T : gSt) (p0 : Int32) : PP nf (d + 1) 63 T [p0] [] = rb_Parser_parseRegions (PP nf d) nf T p0 := rfl
theorem e_Parser_parseFields (nf d : Nat) (T : gSt) (p0 : Int32) : PP nf (d + 1) 64 T [p0] [] = rb_Parser_parseFields (PP nf d) nf T p0 := rfl
theorem e_Parser_parsePart (nf d : Nat) (T : gSt) (p0 : Int32) : PP nf (d + 1) 65 T [p0] [] = rb_Parser_parsePart (PP nf d) nf T p0 := rfl
theorem e_Parser_parseFun (nf d : Nat) (T : gSt) (p0 : Int32) : PP nf (d + 1) 66 T [p0] [] = rb_Parser_parseFun (PP nf d) nf T p0 := rfl
theorem e_Parser_parseParameters (nf d : Nat) (T : gSt) (p0 : Int32) : PP nf (d + 1) 67 T [p0] [] = rb_Parser_parseParameters (PP nf d) nf T p0 := rfl
theorem e_Parser_parseWhere (nf d : Nat) (T : gSt)  : PP nf (d + 1) 68 T [] [] = rb_Parser_parseWhere (PP nf d) nf T := rfl
theorem e_Parser_parseType (nf d : Nat) (T : gSt) (p0 : Int32) (p1 : Int32) : PP nf (d + 1) 69 T [p0, p1] [] = rb_Parser_parseType (PP nf d) nf T p0 p1 := rfl
theorem e_Parser_parseBlock (nf d : Nat) (T : gSt) (p0 : Int32) : PP nf (d + 1) 70 T [p0] [] = rb_Parser_parseBlock (PP nf d) nf T p0 := rfl
theorem e_Parser_parseStep (nf d : Nat) (T : gSt) (p0 : Int32) : PP nf (d + 1) 71 T [p0] [] = rb_Parser_parseStep (PP nf d) nf T p0 := rfl
theorem e_Parser_parseVar (nf d : Nat) (T : gSt) (p0 : Int32) : PP nf (d + 1) 72 T [p0] [] = rb_Parser_parseVar (PP nf d) nf T p0 := rfl
theorem e_Parser_parseChoice (nf d : Nat) (T : gSt) (p0 : Int32) (p1 : Int32) : PP nf (d + 1) 73 T [p0, p1] [] = rb_Parser_parseChoice (PP nf d) nf T p0 p1 := rfl
theorem e_Parser_parseRegionStep (nf d : Nat) (T : gSt) (p0 : Int32) (p1 : Int32) : PP nf (d + 1) 74 T [p0, p1] [] = rb_Parser_parseRegionStep (PP nf d) nf T p0 p1 := rfl
theorem e_Parser_parseTry (nf d : Nat) (T : gSt) (p0 : Int32) : PP nf (d + 1) 75 T [p0] [] = rb_Parser_parseTry (PP nf d) nf T p0 := rfl
theorem e_Parser_parseWordStep (nf d : Nat) (T : gSt) (p0 : Int32) (p1 : Int32) : PP nf (d + 1) 76 T [p0, p1] [] = rb_Parser_parseWordStep (PP nf d) nf T p0 p1 := rfl
theorem e_Parser_parsePlain (nf d : Nat) (T : gSt) (p0 : Int32) : PP nf (d + 1) 77 T [p0] [] = rb_Parser_parsePlain (PP nf d) nf T p0 := rfl
theorem e_Parser_parseExpr (nf d : Nat) (T : gSt) (p0 : Int32) : PP nf (d + 1) 78 T [p0] [] = rb_Parser_parseExpr (PP nf d) nf T p0 := rfl
theorem e_Parser_seesOperator (nf d : Nat) (T : gSt)  : PP nf (d + 1) 79 T [] [] = rb_Parser_seesOperator (PP nf d) nf T := rfl
theorem e_Parser_parseTerm (nf d : Nat) (T : gSt) (p0 : Int32) : PP nf (d + 1) 80 T [p0] [] = rb_Parser_parseTerm (PP nf d) nf T p0 := rfl
theorem e_Parser_parseTail (nf d : Nat) (T : gSt) (p0 : Int32) : PP nf (d + 1) 81 T [p0] [] = rb_Parser_parseTail (PP nf d) nf T p0 := rfl
theorem e_Parser_parsePrimary (nf d : Nat) (T : gSt) (p0 : Int32) : PP nf (d + 1) 82 T [p0] [] = rb_Parser_parsePrimary (PP nf d) nf T p0 := rfl
theorem e_Parser_parseNew (nf d : Nat) (T : gSt) (p0 : Int32) (p1 : Int32) : PP nf (d + 1) 83 T [p0, p1] [] = rb_Parser_parseNew (PP nf d) nf T p0 p1 := rfl
theorem e_Parser_parseMaking (nf d : Nat) (T : gSt) (p0 : Int32) (p1 : Int32) (p2 : Int32) : PP nf (d + 1) 84 T [p0, p1, p2] [] = rb_Parser_parseMaking (PP nf d) nf T p0 p1 p2 := rfl
theorem e_Parser_parseArguments (nf d : Nat) (T : gSt) (p0 : Int32) (p1 : Int32) : PP nf (d + 1) 85 T [p0, p1] [] = rb_Parser_parseArguments (PP nf d) nf T p0 p1 := rfl
theorem e_Types_clear (nf d : Nat) (T : gSt)  : PP nf (d + 1) 86 T [] [] = rb_Types_clear (PP nf d) nf T := rfl
theorem e_Types_keep (nf d : Nat) (T : gSt) (q0 : Int64) : PP nf (d + 1) 87 T [] [q0] = rb_Types_keep (PP nf d) nf T q0 := rfl
theorem e_Types_pointer (nf d : Nat) (T : gSt) (p0 : Int32) (p1 : Int32) (p2 : Int32) : PP nf (d + 1) 88 T [p0, p1, p2] [] = rb_Types_pointer (PP nf d) nf T p0 p1 p2 := rfl
theorem e_Types_thing (nf d : Nat) (T : gSt) (p0 : Int32) (p1 : Int32) : PP nf (d + 1) 89 T [p0, p1] [] = rb_Types_thing (PP nf d) nf T p0 p1 := rfl
theorem e_Types_keyOf (nf d : Nat) (T : gSt) (p0 : Int32) : PP nf (d + 1) 90 T [p0] [] = rb_Types_keyOf (PP nf d) nf T p0 := rfl
theorem e_Types_kindOf (nf d : Nat) (T : gSt) (p0 : Int32) : PP nf (d + 1) 91 T [p0] [] = rb_Types_kindOf (PP nf d) nf T p0 := rfl
theorem e_Types_regionOf (nf d : Nat) (T : gSt) (p0 : Int32) : PP nf (d + 1) 92 T [p0] [] = rb_Types_regionOf (PP nf d) nf T p0 := rfl
theorem e_Types_behind (nf d : Nat) (T : gSt) (p0 : Int32) : PP nf (d + 1) 93 T [p0] [] = rb_Types_behind (PP nf d) nf T p0 := rfl
theorem e_Types_titleBehind (nf d : Nat) (T : gSt) (p0 : Int32) : PP nf (d + 1) 94 T [p0] [] = rb_Types_titleBehind (PP nf d) nf T p0 := rfl
theorem e_Types_regionsBehind (nf d : Nat) (T : gSt) (p0 : Int32) : PP nf (d + 1) 95 T [p0] [] = rb_Types_regionsBehind (PP nf d) nf T p0 := rfl
theorem e_Types_isPointed (nf d : Nat) (T : gSt) (p0 : Int32) : PP nf (d + 1) 96 T [p0] [] = rb_Types_isPointed (PP nf d) nf T p0 := rfl
theorem e_Types_wordsOf (nf d : Nat) (T : gSt) (p0 : Int32) : PP nf (d + 1) 97 T [p0] [] = rb_Types_wordsOf (PP nf d) nf T p0 := rfl
theorem e_Types_told (nf d : Nat) (T : gSt) (p0 : Int32) (p1 : Int32) (p2 : Int32) : PP nf (d + 1) 98 T [p0, p1, p2] [] = rb_Types_told (PP nf d) nf T p0 p1 p2 := rfl
theorem e_Types_toldAll (nf d : Nat) (T : gSt) (p0 : Int32) (p1 : Int32) : PP nf (d + 1) 99 T [p0, p1] [] = rb_Types_toldAll (PP nf d) nf T p0 p1 := rfl
theorem e_Types_toldOne (nf d : Nat) (T : gSt) (p0 : Int32) (p1 : Int32) : PP nf (d + 1) 100 T [p0, p1] [] = rb_Types_toldOne (PP nf d) nf T p0 p1 := rfl
theorem e_Scope_enterHead (nf d : Nat) (T : gSt) (p0 : Int32) : PP nf (d + 1) 101 T [p0] [] = rb_Scope_enterHead (PP nf d) nf T p0 := rfl
theorem e_Scope_enterFun (nf d : Nat) (T : gSt) (p0 : Int32) : PP nf (d + 1) 102 T [p0] [] = rb_Scope_enterFun (PP nf d) nf T p0 := rfl
theorem e_Scope_findRegion (nf d : Nat) (T : gSt) (q0 : Int64) : PP nf (d + 1) 103 T [] [q0] = rb_Scope_findRegion (PP nf d) nf T q0 := rfl
theorem e_Scope_openRegion (nf d : Nat) (T : gSt) (q0 : Int64) : PP nf (d + 1) 104 T [] [q0] = rb_Scope_openRegion (PP nf d) nf T q0 := rfl
theorem e_Scope_leaveRegion (nf d : Nat) (T : gSt) (p0 : Int32) : PP nf (d + 1) 105 T [p0] [] = rb_Scope_leaveRegion (PP nf d) nf T p0 := rfl
theorem e_Scope_mayClose (nf d : Nat) (T : gSt) (p0 : Int32) : PP nf (d + 1) 106 T [p0] [] = rb_Scope_mayClose (PP nf d) nf T p0 := rfl
theorem e_Scope_isLive (nf d : Nat) (T : gSt) (p0 : Int32) : PP nf (d + 1) 107 T [p0] [] = rb_Scope_isLive (PP nf d) nf T p0 := rfl
theorem e_Scope_setLive (nf d : Nat) (T : gSt) (p0 : Int32) (p1 : Int32) : PP nf (d + 1) 108 T [p0, p1] [] = rb_Scope_setLive (PP nf d) nf T p0 p1 := rfl
theorem e_Scope_outlives (nf d : Nat) (T : gSt) (p0 : Int32) (p1 : Int32) : PP nf (d + 1) 109 T [p0, p1] [] = rb_Scope_outlives (PP nf d) nf T p0 p1 := rfl
theorem e_Scope_aboveBit (nf d : Nat) (T : gSt) (p0 : Int32) (p1 : Int32) : PP nf (d + 1) 110 T [p0, p1] [] = rb_Scope_aboveBit (PP nf d) nf T p0 p1 := rfl
theorem e_Scope_varsSeen (nf d : Nat) (T : gSt)  : PP nf (d + 1) 111 T [] [] = rb_Scope_varsSeen (PP nf d) nf T := rfl
theorem e_Scope_forgetVars (nf d : Nat) (T : gSt) (p0 : Int32) : PP nf (d + 1) 112 T [p0] [] = rb_Scope_forgetVars (PP nf d) nf T p0 := rfl
theorem e_Scope_findVar (nf d : Nat) (T : gSt) (q0 : Int64) : PP nf (d + 1) 113 T [] [q0] = rb_Scope_findVar (PP nf d) nf T q0 := rfl
theorem e_Scope_addVar (nf d : Nat) (T : gSt) (q0 : Int64) (p0 : Int32) : PP nf (d + 1) 114 T [p0] [q0] = rb_Scope_addVar (PP nf d) nf T q0 p0 := rfl
theorem e_Scope_typeOf (nf d : Nat) (T : gSt) (p0 : Int32) : PP nf (d + 1) 115 T [p0] [] = rb_Scope_typeOf (PP nf d) nf T p0 := rfl
theorem e_Scope_slotOf (nf d : Nat) (T : gSt) (p0 : Int32) : PP nf (d + 1) 116 T [p0] [] = rb_Scope_slotOf (PP nf d) nf T p0 := rfl
theorem e_Scope_isReached (nf d : Nat) (T : gSt)  : PP nf (d + 1) 117 T [] [] = rb_Scope_isReached (PP nf d) nf T := rfl
theorem e_Scope_leave (nf d : Nat) (T : gSt)  : PP nf (d + 1) 118 T [] [] = rb_Scope_leave (PP nf d) nf T := rfl
theorem e_Scope_isSet (nf d : Nat) (T : gSt) (p0 : Int32) : PP nf (d + 1) 119 T [p0] [] = rb_Scope_isSet (PP nf d) nf T p0 := rfl
theorem e_Scope_isKnown (nf d : Nat) (T : gSt) (p0 : Int32) : PP nf (d + 1) 120 T [p0] [] = rb_Scope_isKnown (PP nf d) nf T p0 := rfl
theorem e_Scope_give (nf d : Nat) (T : gSt) (p0 : Int32) (p1 : Int32) : PP nf (d + 1) 121 T [p0, p1] [] = rb_Scope_give (PP nf d) nf T p0 p1 := rfl
theorem e_Scope_know (nf d : Nat) (T : gSt) (p0 : Int32) : PP nf (d + 1) 122 T [p0] [] = rb_Scope_know (PP nf d) nf T p0 := rfl
theorem e_Scope_forgetKnown (nf d : Nat) (T : gSt) (p0 : Int32) : PP nf (d + 1) 123 T [p0] [] = rb_Scope_forgetKnown (PP nf d) nf T p0 := rfl
theorem e_Scope_sameLive (nf d : Nat) (T : gSt) (q0 : Int64) (q1 : Int64) : PP nf (d + 1) 124 T [] [q0, q1] = rb_Scope_sameLive (PP nf d) nf T q0 q1 := rfl
theorem e_Scope_meet (nf d : Nat) (T : gSt) (q0 : Int64) (q1 : Int64) : PP nf (d + 1) 125 T [] [q0, q1] = rb_Scope_meet (PP nf d) nf T q0 q1 := rfl
theorem e_Heads_check (nf d : Nat) (T : gSt)  : PP nf (d + 1) 126 T [] [] = rb_Heads_check (PP nf d) nf T := rfl
theorem e_Heads_mainName (nf d : Nat) (T : gSt)  : PP nf (d + 1) 127 T [] [] = rb_Heads_mainName (PP nf d) nf T := rfl
theorem e_Heads_checkHead (nf d : Nat) (T : gSt) (p0 : Int32) : PP nf (d + 1) 128 T [p0] [] = rb_Heads_checkHead (PP nf d) nf T p0 := rfl
theorem e_Heads_checkParts (nf d : Nat) (T : gSt) (p0 : Int32) : PP nf (d + 1) 129 T [p0] [] = rb_Heads_checkParts (PP nf d) nf T p0 := rfl
theorem e_Heads_findPart (nf d : Nat) (T : gSt) (p0 : Int32) (q0 : Int64) : PP nf (d + 1) 130 T [p0] [q0] = rb_Heads_findPart (PP nf d) nf T p0 q0 := rfl
theorem e_Heads_readDead (nf d : Nat) (T : gSt) (p0 : Int32) : PP nf (d + 1) 131 T [p0] [] = rb_Heads_readDead (PP nf d) nf T p0 := rfl
theorem e_Heads_readWhere (nf d : Nat) (T : gSt) (p0 : Int32) : PP nf (d + 1) 132 T [p0] [] = rb_Heads_readWhere (PP nf d) nf T p0 := rfl
theorem e_Heads_closed (nf d : Nat) (T : gSt) (p0 : Int32) : PP nf (d + 1) 133 T [p0] [] = rb_Heads_closed (PP nf d) nf T p0 := rfl
theorem e_Heads_ownRegion (nf d : Nat) (T : gSt) (p0 : Int32) : PP nf (d + 1) 134 T [p0] [] = rb_Heads_ownRegion (PP nf d) nf T p0 := rfl
theorem e_Heads_readRegion (nf d : Nat) (T : gSt) (p0 : Int32) : PP nf (d + 1) 135 T [p0] [] = rb_Heads_readRegion (PP nf d) nf T p0 := rfl
theorem e_Heads_readRegions (nf d : Nat) (T : gSt) (p0 : Int32) (p1 : Int32) : PP nf (d + 1) 136 T [p0, p1] [] = rb_Heads_readRegions (PP nf d) nf T p0 p1 := rfl
theorem e_Heads_readType (nf d : Nat) (T : gSt) (p0 : Int32) (p1 : Int32) : PP nf (d + 1) 137 T [p0, p1] [] = rb_Heads_readType (PP nf d) nf T p0 p1 := rfl
theorem e_Heads_readTitle (nf d : Nat) (T : gSt) (p0 : Int32) : PP nf (d + 1) 138 T [p0] [] = rb_Heads_readTitle (PP nf d) nf T p0 := rfl
theorem e_Exprs_check (nf d : Nat) (T : gSt) (p0 : Int32) (p1 : Int32) : PP nf (d + 1) 139 T [p0, p1] [] = rb_Exprs_check (PP nf d) nf T p0 p1 := rfl
theorem e_Exprs_checkFits (nf d : Nat) (T : gSt) (p0 : Int32) (p1 : Int32) (p2 : Int32) : PP nf (d + 1) 140 T [p0, p1, p2] [] = rb_Exprs_checkFits (PP nf d) nf T p0 p1 p2 := rfl
theorem e_Exprs_demandFit (nf d : Nat) (T : gSt) (p0 : Int32) (p1 : Int32) (p2 : Int32) : PP nf (d + 1) 141 T [p0, p1, p2] [] = rb_Exprs_demandFit (PP nf d) nf T p0 p1 p2 := rfl
theorem e_Exprs_demand (nf d : Nat) (T : gSt) (p0 : Int32) (p1 : Int32) (p2 : Int32) : PP nf (d + 1) 142 T [p0, p1, p2] [] = rb_Exprs_demand (PP nf d) nf T p0 p1 p2 := rfl
theorem e_Exprs_lackOf (nf d : Nat) (T : gSt) (p0 : Int32) (p1 : Int32) : PP nf (d + 1) 143 T [p0, p1] [] = rb_Exprs_lackOf (PP nf d) nf T p0 p1 := rfl
theorem e_Exprs_checkOperator (nf d : Nat) (T : gSt) (p0 : Int32) (p1 : Int32) (p2 : Int32) (p3 : Int32) : PP nf (d + 1) 144 T [p0, p1, p2, p3] [] = rb_Exprs_checkOperator (PP nf d) nf T p0 p1 p2 p3 := rfl
theorem e_Exprs_mayCompare (nf d : Nat) (T : gSt) (p0 : Int32) : PP nf (d + 1) 145 T [p0] [] = rb_Exprs_mayCompare (PP nf d) nf T p0 := rfl
theorem e_Exprs_checkComparison (nf d : Nat) (T : gSt) (p0 : Int32) (p1 : Int32) (p2 : Int32) (p3 : Int32) : PP nf (d + 1) 146 T [p0, p1, p2, p3] [] = rb_Exprs_checkComparison (PP nf d) nf T p0 p1 p2 p3 := rfl
theorem e_Exprs_instructionOf (nf d : Nat) (T : gSt) (p0 : Int32) : PP nf (d + 1) 147 T [p0] [] = rb_Exprs_instructionOf (PP nf d) nf T p0 := rfl
theorem e_Exprs_checkTerm (nf d : Nat) (T : gSt) (p0 : Int32) (p1 : Int32) (p2 : Int32) : PP nf (d + 1) 148 T [p0, p1, p2] [] = rb_Exprs_checkTerm (PP nf d) nf T p0 p1 p2 := rfl
theorem e_Exprs_checkPlace (nf d : Nat) (T : gSt) (p0 : Int32) (p1 : Int32) (p2 : Int32) (p3 : Int32) (p4 : Int32) : PP nf (d + 1) 149 T [p0, p1, p2, p3, p4] [] = rb_Exprs_checkPlace (PP nf d) nf T p0 p1 p2 p3 p4 := rfl
theorem e_Exprs_checkField (nf d : Nat) (T : gSt) (p0 : Int32) (p1 : Int32) (p2 : Int32) (p3 : Int32) : PP nf (d + 1) 150 T [p0, p1, p2, p3] [] = rb_Exprs_checkField (PP nf d) nf T p0 p1 p2 p3 := rfl
theorem e_Exprs_emitPointed (nf d : Nat) (T : gSt) (p0 : Int32) (p1 : Int32) (p2 : Int32) : PP nf (d + 1) 151 T [p0, p1, p2] [] = rb_Exprs_emitPointed (PP nf d) nf T p0 p1 p2 := rfl
theorem e_Exprs_countNull (nf d : Nat) (T : gSt) (p0 : Int32) : PP nf (d + 1) 152 T [p0] [] = rb_Exprs_countNull (PP nf d) nf T p0 := rfl
theorem e_Exprs_checkIndex (nf d : Nat) (T : gSt) (p0 : Int32) (p1 : Int32) (p2 : Int32) (p3 : Int32) (p4 : Int32) : PP nf (d + 1) 153 T [p0, p1, p2, p3, p4] [] = rb_Exprs_checkIndex (PP nf d) nf T p0 p1 p2 p3 p4 := rfl
theorem e_Exprs_checkCell (nf d : Nat) (T : gSt) (p0 : Int32) (p1 : Int32) (p2 : Int32) : PP nf (d + 1) 154 T [p0, p1, p2] [] = rb_Exprs_checkCell (PP nf d) nf T p0 p1 p2 := rfl
theorem e_Exprs_checkIs (nf d : Nat) (T : gSt) (p0 : Int32) (p1 : Int32) (p2 : Int32) : PP nf (d + 1) 155 T [p0, p1, p2] [] = rb_Exprs_checkIs (PP nf d) nf T p0 p1 p2 := rfl
theorem e_Exprs_checkPrimary (nf d : Nat) (T : gSt) (p0 : Int32) (p1 : Int32) : PP nf (d + 1) 156 T [p0, p1] [] = rb_Exprs_checkPrimary (PP nf d) nf T p0 p1 := rfl
theorem e_Exprs_checkName (nf d : Nat) (T : gSt) (p0 : Int32) : PP nf (d + 1) 157 T [p0] [] = rb_Exprs_checkName (PP nf d) nf T p0 := rfl
theorem e_Exprs_solidOf (nf d : Nat) (T : gSt) (p0 : Int32) : PP nf (d + 1) 158 T [p0] [] = rb_Exprs_solidOf (PP nf d) nf T p0 := rfl
theorem e_Exprs_checkCall (nf d : Nat) (T : gSt) (p0 : Int32) (p1 : Int32) : PP nf (d + 1) 159 T [p0, p1] [] = rb_Exprs_checkCall (PP nf d) nf T p0 p1 := rfl
theorem e_Exprs_checkParts (nf d : Nat) (T : gSt) (p0 : Int32) (p1 : Int32) (p2 : Int32) (p3 : Int32) : PP nf (d + 1) 160 T [p0, p1, p2, p3] [] = rb_Exprs_checkParts (PP nf d) nf T p0 p1 p2 p3 := rfl
theorem e_Exprs_checkWhere (nf d : Nat) (T : gSt) (p0 : Int32) (p1 : Int32) (p2 : Int32) : PP nf (d + 1) 161 T [p0, p1, p2] [] = rb_Exprs_checkWhere (PP nf d) nf T p0 p1 p2 := rfl
theorem e_Exprs_readLiveRegion (nf d : Nat) (T : gSt) (p0 : Int32) : PP nf (d + 1) 162 T [p0] [] = rb_Exprs_readLiveRegion (PP nf d) nf T p0 := rfl
theorem e_Exprs_checkNew (nf d : Nat) (T : gSt) (p0 : Int32) (p1 : Int32) : PP nf (d + 1) 163 T [p0, p1] [] = rb_Exprs_checkNew (PP nf d) nf T p0 p1 := rfl
theorem e_Exprs_makeUnion (nf d : Nat) (T : gSt) (p0 : Int32) (p1 : Int32) (p2 : Int32) (p3 : Int32) : PP nf (d + 1) 164 T [p0, p1, p2, p3] [] = rb_Exprs_makeUnion (PP nf d) nf T p0 p1 p2 p3 := rfl
theorem e_Exprs_makeStruct (nf d : Nat) (T : gSt) (p0 : Int32) (p1 : Int32) (p2 : Int32) (p3 : Int32) : PP nf (d + 1) 165 T [p0, p1, p2, p3] [] = rb_Exprs_makeStruct (PP nf d) nf T p0 p1 p2 p3 := rfl
theorem e_Exprs_checkNewCell (nf d : Nat) (T : gSt) (p0 : Int32) (p1 : Int32) : PP nf (d + 1) 166 T [p0, p1] [] = rb_Exprs_checkNewCell (PP nf d) nf T p0 p1 := rfl
theorem e_Exprs_checkNewRow (nf d : Nat) (T : gSt) (p0 : Int32) (p1 : Int32) : PP nf (d + 1) 167 T [p0, p1] [] = rb_Exprs_checkNewRow (PP nf d) nf T p0 p1 := rfl
theorem e_Exprs_checkValue (nf d : Nat) (T : gSt) (p0 : Int32) (p1 : Int32) : PP nf (d + 1) 168 T [p0, p1] [] = rb_Exprs_checkValue (PP nf d) nf T p0 p1 := rfl
theorem e_Exprs_checkAddress (nf d : Nat) (T : gSt) (p0 : Int32) (p1 : Int32) : PP nf (d + 1) 169 T [p0, p1] [] = rb_Exprs_checkAddress (PP nf d) nf T p0 p1 := rfl
theorem e_Exprs_checkSolid (nf d : Nat) (T : gSt) (p0 : Int32) (p1 : Int32) : PP nf (d + 1) 170 T [p0, p1] [] = rb_Exprs_checkSolid (PP nf d) nf T p0 p1 := rfl
theorem e_Exprs_checkSize (nf d : Nat) (T : gSt) (p0 : Int32) (p1 : Int32) : PP nf (d + 1) 171 T [p0, p1] [] = rb_Exprs_checkSize (PP nf d) nf T p0 p1 := rfl
theorem e_Exprs_storePlace (nf d : Nat) (T : gSt) (p0 : Int32) (p1 : Int32) (p2 : Int32) (p3 : Int32) : PP nf (d + 1) 172 T [p0, p1, p2, p3] [] = rb_Exprs_storePlace (PP nf d) nf T p0 p1 p2 p3 := rfl
theorem e_Exprs_storeVar (nf d : Nat) (T : gSt) (p0 : Int32) (p1 : Int32) (p2 : Int32) : PP nf (d + 1) 173 T [p0, p1, p2] [] = rb_Exprs_storeVar (PP nf d) nf T p0 p1 p2 := rfl
theorem e_Exprs_giveVar (nf d : Nat) (T : gSt) (p0 : Int32) (p1 : Int32) : PP nf (d + 1) 174 T [p0, p1] [] = rb_Exprs_giveVar (PP nf d) nf T p0 p1 := rfl
theorem e_Exprs_varAlone (nf d : Nat) (T : gSt) (p0 : Int32) : PP nf (d + 1) 175 T [p0] [] = rb_Exprs_varAlone (PP nf d) nf T p0 := rfl
theorem e_Exprs_varAgainstNull (nf d : Nat) (T : gSt) (p0 : Int32) : PP nf (d + 1) 176 T [p0] [] = rb_Exprs_varAgainstNull (PP nf d) nf T p0 := rfl
theorem e_Exprs_varOfTerm (nf d : Nat) (T : gSt) (p0 : Int32) : PP nf (d + 1) 177 T [p0] [] = rb_Exprs_varOfTerm (PP nf d) nf T p0 := rfl
theorem e_Steps_check (nf d : Nat) (T : gSt)  : PP nf (d + 1) 178 T [] [] = rb_Steps_check (PP nf d) nf T := rfl
theorem e_Steps_checkFun (nf d : Nat) (T : gSt) (p0 : Int32) : PP nf (d + 1) 179 T [p0] [] = rb_Steps_checkFun (PP nf d) nf T p0 := rfl
theorem e_Steps_checkBlock (nf d : Nat) (T : gSt) (p0 : Int32) (p1 : Int32) : PP nf (d + 1) 180 T [p0, p1] [] = rb_Steps_checkBlock (PP nf d) nf T p0 p1 := rfl
theorem e_Steps_checkStep (nf d : Nat) (T : gSt) (p0 : Int32) (p1 : Int32) : PP nf (d + 1) 181 T [p0, p1] [] = rb_Steps_checkStep (PP nf d) nf T p0 p1 := rfl
theorem e_Steps_checkNumber (nf d : Nat) (T : gSt) (p0 : Int32) (p1 : Int32) : PP nf (d + 1) 182 T [p0, p1] [] = rb_Steps_checkNumber (PP nf d) nf T p0 p1 := rfl
theorem e_Steps_checkVar (nf d : Nat) (T : gSt) (p0 : Int32) (p1 : Int32) : PP nf (d + 1) 183 T [p0, p1] [] = rb_Steps_checkVar (PP nf d) nf T p0 p1 := rfl
theorem e_Steps_checkReturn (nf d : Nat) (T : gSt) (p0 : Int32) (p1 : Int32) : PP nf (d + 1) 184 T [p0, p1] [] = rb_Steps_checkReturn (PP nf d) nf T p0 p1 := rfl
theorem e_Steps_checkQuestion (nf d : Nat) (T : gSt) (p0 : Int32) (p1 : Int32) : PP nf (d + 1) 185 T [p0, p1] [] = rb_Steps_checkQuestion (PP nf d) nf T p0 p1 := rfl
theorem e_Steps_checkIf (nf d : Nat) (T : gSt) (p0 : Int32) (p1 : Int32) : PP nf (d + 1) 186 T [p0, p1] [] = rb_Steps_checkIf (PP nf d) nf T p0 p1 := rfl
theorem e_Steps_checkWhile (nf d : Nat) (T : gSt) (p0 : Int32) (p1 : Int32) : PP nf (d + 1) 187 T [p0, p1] [] = rb_Steps_checkWhile (PP nf d) nf T p0 p1 := rfl
theorem e_Steps_checkRegion (nf d : Nat) (T : gSt) (p0 : Int32) (p1 : Int32) : PP nf (d + 1) 188 T [p0, p1] [] = rb_Steps_checkRegion (PP nf d) nf T p0 p1 := rfl
theorem e_Steps_checkClose (nf d : Nat) (T : gSt) (p0 : Int32) : PP nf (d + 1) 189 T [p0] [] = rb_Steps_checkClose (PP nf d) nf T p0 := rfl
theorem e_Steps_checkTry (nf d : Nat) (T : gSt) (p0 : Int32) (p1 : Int32) : PP nf (d + 1) 190 T [p0, p1] [] = rb_Steps_checkTry (PP nf d) nf T p0 p1 := rfl
theorem e_Steps_varsGiven (nf d : Nat) (T : gSt) (p0 : Int32) (p1 : Int32) : PP nf (d + 1) 191 T [p0, p1] [] = rb_Steps_varsGiven (PP nf d) nf T p0 p1 := rfl
theorem e_Machine_halt (nf d : Nat) (T : gSt)  : PP nf (d + 1) 192 T [] [] = rb_Machine_halt (PP nf d) nf T := rfl
theorem e_Machine_begin (nf d : Nat) (T : gSt) (p0 : Int32) (p1 : Int32) : PP nf (d + 1) 193 T [p0, p1] [] = rb_Machine_begin (PP nf d) nf T p0 p1 := rfl
theorem e_Machine_takeInput (nf d : Nat) (T : gSt) (p0 : Int32) : PP nf (d + 1) 194 T [p0] [] = rb_Machine_takeInput (PP nf d) nf T p0 := rfl
theorem e_Machine_doSteps (nf d : Nat) (T : gSt) (p0 : Int32) : PP nf (d + 1) 195 T [p0] [] = rb_Machine_doSteps (PP nf d) nf T p0 := rfl
theorem e_Machine_goOn (nf d : Nat) (T : gSt)  : PP nf (d + 1) 196 T [] [] = rb_Machine_goOn (PP nf d) nf T := rfl
theorem e_Machine_push (nf d : Nat) (T : gSt) (p0 : Int32) : PP nf (d + 1) 197 T [p0] [] = rb_Machine_push (PP nf d) nf T p0 := rfl
theorem e_Machine_pop (nf d : Nat) (T : gSt)  : PP nf (d + 1) 198 T [] [] = rb_Machine_pop (PP nf d) nf T := rfl
theorem e_Machine_wordAt (nf d : Nat) (T : gSt) (p0 : Int32) : PP nf (d + 1) 199 T [p0] [] = rb_Machine_wordAt (PP nf d) nf T p0 := rfl
theorem e_Machine_setWord (nf d : Nat) (T : gSt) (p0 : Int32) (p1 : Int32) : PP nf (d + 1) 200 T [p0, p1] [] = rb_Machine_setWord (PP nf d) nf T p0 p1 := rfl
theorem e_Machine_frame (nf d : Nat) (T : gSt) (p0 : Int32) : PP nf (d + 1) 201 T [p0] [] = rb_Machine_frame (PP nf d) nf T p0 := rfl
theorem e_Machine_setFrame (nf d : Nat) (T : gSt) (p0 : Int32) (p1 : Int32) : PP nf (d + 1) 202 T [p0, p1] [] = rb_Machine_setFrame (PP nf d) nf T p0 p1 := rfl
theorem e_Machine_doSimple (nf d : Nat) (T : gSt) (p0 : Int32) (p1 : Int32) (p2 : Int32) : PP nf (d + 1) 203 T [p0, p1, p2] [] = rb_Machine_doSimple (PP nf d) nf T p0 p1 p2 := rfl
theorem e_Machine_nextInput (nf d : Nat) (T : gSt)  : PP nf (d + 1) 204 T [] [] = rb_Machine_nextInput (PP nf d) nf T := rfl
theorem e_Machine_keepPrinted (nf d : Nat) (T : gSt) (p0 : Int32) : PP nf (d + 1) 205 T [p0] [] = rb_Machine_keepPrinted (PP nf d) nf T p0 := rfl
theorem e_Machine_doNumeric (nf d : Nat) (T : gSt) (p0 : Int32) : PP nf (d + 1) 206 T [p0] [] = rb_Machine_doNumeric (PP nf d) nf T p0 := rfl
theorem e_Machine_doPointed (nf d : Nat) (T : gSt) (p0 : Int32) (p1 : Int32) (p2 : Int32) : PP nf (d + 1) 207 T [p0, p1, p2] [] = rb_Machine_doPointed (PP nf d) nf T p0 p1 p2 := rfl
theorem e_Machine_fetch (nf d : Nat) (T : gSt) (p0 : Int32) (p1 : Int32) : PP nf (d + 1) 208 T [p0, p1] [] = rb_Machine_fetch (PP nf d) nf T p0 p1 := rfl
theorem e_Machine_store (nf d : Nat) (T : gSt) (p0 : Int32) (p1 : Int32) : PP nf (d + 1) 209 T [p0, p1] [] = rb_Machine_store (PP nf d) nf T p0 p1 := rfl
theorem e_Machine_doIndexed (nf d : Nat) (T : gSt) (p0 : Int32) (p1 : Int32) : PP nf (d + 1) 210 T [p0, p1] [] = rb_Machine_doIndexed (PP nf d) nf T p0 p1 := rfl
theorem e_Machine_doMaking (nf d : Nat) (T : gSt) (p0 : Int32) (p1 : Int32) (p2 : Int32) : PP nf (d + 1) 211 T [p0, p1, p2] [] = rb_Machine_doMaking (PP nf d) nf T p0 p1 p2 := rfl
theorem e_Machine_makeRow (nf d : Nat) (T : gSt) (p0 : Int32) (p1 : Int32) : PP nf (d + 1) 212 T [p0, p1] [] = rb_Machine_makeRow (PP nf d) nf T p0 p1 := rfl
theorem e_Machine_placeFor (nf d : Nat) (T : gSt) (p0 : Int32) (p1 : Int32) (p2 : Int32) : PP nf (d + 1) 213 T [p0, p1, p2] [] = rb_Machine_placeFor (PP nf d) nf T p0 p1 p2 := rfl
theorem e_Machine_doControl (nf d : Nat) (T : gSt) (p0 : Int32) (p1 : Int32) (p2 : Int32) : PP nf (d + 1) 214 T [p0, p1, p2] [] = rb_Machine_doControl (PP nf d) nf T p0 p1 p2 := rfl
theorem e_Machine_pushTry (nf d : Nat) (T : gSt) (p0 : Int32) : PP nf (d + 1) 215 T [p0] [] = rb_Machine_pushTry (PP nf d) nf T p0 := rfl
theorem e_Machine_raise (nf d : Nat) (T : gSt) (p0 : Int32) : PP nf (d + 1) 216 T [p0] [] = rb_Machine_raise (PP nf d) nf T p0 := rfl
theorem e_Machine_enter (nf d : Nat) (T : gSt) (p0 : Int32) (p1 : Int32) : PP nf (d + 1) 217 T [p0, p1] [] = rb_Machine_enter (PP nf d) nf T p0 p1 := rfl
theorem e_Machine_leave (nf d : Nat) (T : gSt) (p0 : Int32) : PP nf (d + 1) 218 T [p0] [] = rb_Machine_leave (PP nf d) nf T p0 := rfl
theorem e_Machine_placeOfStep (nf d : Nat) (T : gSt)  : PP nf (d + 1) 219 T [] [] = rb_Machine_placeOfStep (PP nf d) nf T := rfl
theorem e_Machine_tell (nf d : Nat) (T : gSt) (p0 : Int32) : PP nf (d + 1) 220 T [p0] [] = rb_Machine_tell (PP nf d) nf T p0 := rfl
theorem e_Machine_printedAt (nf d : Nat) (T : gSt) (p0 : Int32) : PP nf (d + 1) 221 T [p0] [] = rb_Machine_printedAt (PP nf d) nf T p0 := rfl
theorem e_Memory_begin (nf d : Nat) (T : gSt) (p0 : Int32) (p1 : Int32) : PP nf (d + 1) 222 T [p0, p1] [] = rb_Memory_begin (PP nf d) nf T p0 p1 := rfl
theorem e_Memory_pageWords (nf d : Nat) (T : gSt)  : PP nf (d + 1) 223 T [] [] = rb_Memory_pageWords (PP nf d) nf T := rfl
theorem e_Memory_pagesInUse (nf d : Nat) (T : gSt)  : PP nf (d + 1) 224 T [] [] = rb_Memory_pagesInUse (PP nf d) nf T := rfl
theorem e_Memory_regionCount (nf d : Nat) (T : gSt)  : PP nf (d + 1) 225 T [] [] = rb_Memory_regionCount (PP nf d) nf T := rfl
theorem e_Memory_objectsMade (nf d : Nat) (T : gSt)  : PP nf (d + 1) 226 T [] [] = rb_Memory_objectsMade (PP nf d) nf T := rfl
theorem e_Memory_strayTouches (nf d : Nat) (T : gSt)  : PP nf (d + 1) 227 T [] [] = rb_Memory_strayTouches (PP nf d) nf T := rfl
theorem e_Memory_open (nf d : Nat) (T : gSt)  : PP nf (d + 1) 228 T [] [] = rb_Memory_open (PP nf d) nf T := rfl
theorem e_Memory_closeFrom (nf d : Nat) (T : gSt) (p0 : Int32) : PP nf (d + 1) 229 T [p0] [] = rb_Memory_closeFrom (PP nf d) nf T p0 := rfl
theorem e_Memory_make (nf d : Nat) (T : gSt) (p0 : Int32) (p1 : Int32) : PP nf (d + 1) 230 T [p0, p1] [] = rb_Memory_make (PP nf d) nf T p0 p1 := rfl
theorem e_Memory_freePage (nf d : Nat) (T : gSt) : PP nf (d + 1) 231 T [] [] = rb_Memory_freePage (PP nf d) nf T := rfl
theorem e_Memory_takePage (nf d : Nat) (T : gSt) (p0 : Int32) (p1 : Int32) : PP nf (d + 1) 232 T [p0, p1] [] = rb_Memory_takePage (PP nf d) nf T p0 p1 := rfl
theorem e_Memory_get (nf d : Nat) (T : gSt) (p0 : Int32) : PP nf (d + 1) 233 T [p0] [] = rb_Memory_get (PP nf d) nf T p0 := rfl
theorem e_Memory_put (nf d : Nat) (T : gSt) (p0 : Int32) (p1 : Int32) : PP nf (d + 1) 234 T [p0, p1] [] = rb_Memory_put (PP nf d) nf T p0 p1 := rfl
theorem e_Memory_isOwned (nf d : Nat) (T : gSt) (p0 : Int32) : PP nf (d + 1) 235 T [p0] [] = rb_Memory_isOwned (PP nf d) nf T p0 := rfl
theorem e_Memory_tellRegion (nf d : Nat) (T : gSt) (p0 : Int32) (p1 : Int32) : PP nf (d + 1) 236 T [p0, p1] [] = rb_Memory_tellRegion (PP nf d) nf T p0 p1 := rfl
theorem e_Exprs_nameAlone (nf d : Nat) (T : gSt) (p0 : Int32) : PP nf (d + 1) 237 T [p0] [] = rb_Exprs_nameAlone (PP nf d) nf T p0 := rfl
