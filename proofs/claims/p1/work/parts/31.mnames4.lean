theorem fl_Model_228 : Cond.fieldLink R_Model 228 "PointerHouseModel" "vx" "[I" ∈ lw_good := lg_right (i := 1928) (by decide +kernel) rfl
theorem d_Model_init_629 : decode b_Model_init 629 = .ok (.aload_n 0, 1) := by decide +kernel
theorem d_Model_init_630 : decode b_Model_init 630 = .ok (.sipush 820, 3) := by decide +kernel
theorem d_Model_init_633 : decode b_Model_init 633 = .ok (.newarray .int, 2) := by decide +kernel
theorem d_Model_init_635 : decode b_Model_init 635 = .ok (.putfield 231, 3) := by decide +kernel
theorem fl_Model_231 : Cond.fieldLink R_Model 231 "PointerHouseModel" "vy" "[I" ∈ lw_good := lg_right (i := 1929) (by decide +kernel) rfl
theorem d_Model_init_638 : decode b_Model_init 638 = .ok (.aload_n 0, 1) := by decide +kernel
theorem d_Model_init_639 : decode b_Model_init 639 = .ok (.sipush 820, 3) := by decide +kernel
theorem d_Model_init_642 : decode b_Model_init 642 = .ok (.newarray .int, 2) := by decide +kernel
theorem d_Model_init_644 : decode b_Model_init 644 = .ok (.putfield 234, 3) := by decide +kernel
theorem fl_Model_234 : Cond.fieldLink R_Model 234 "PointerHouseModel" "vz" "[I" ∈ lw_good := lg_right (i := 1930) (by decide +kernel) rfl
theorem d_Model_init_647 : decode b_Model_init 647 = .ok (.aload_n 0, 1) := by decide +kernel
theorem d_Model_init_648 : decode b_Model_init 648 = .ok (.sipush 820, 3) := by decide +kernel
theorem d_Model_init_651 : decode b_Model_init 651 = .ok (.newarray .int, 2) := by decide +kernel
theorem d_Model_init_653 : decode b_Model_init 653 = .ok (.putfield 237, 3) := by decide +kernel
theorem fl_Model_237 : Cond.fieldLink R_Model 237 "PointerHouseModel" "vRowed" "[I" ∈ lw_good := lg_right (i := 1931) (by decide +kernel) rfl
theorem d_Model_init_656 : decode b_Model_init 656 = .ok (.aload_n 0, 1) := by decide +kernel
theorem d_Model_init_657 : decode b_Model_init 657 = .ok (.sipush 492, 3) := by decide +kernel
theorem d_Model_init_660 : decode b_Model_init 660 = .ok (.newarray .int, 2) := by decide +kernel
theorem d_Model_init_662 : decode b_Model_init 662 = .ok (.putfield 240, 3) := by decide +kernel
theorem fl_Model_240 : Cond.fieldLink R_Model 240 "PointerHouseModel" "regionNow" "[I" ∈ lw_good := lg_right (i := 1932) (by decide +kernel) rfl
theorem d_Model_init_665 : decode b_Model_init 665 = .ok (.aload_n 0, 1) := by decide +kernel
theorem d_Model_init_666 : decode b_Model_init 666 = .ok (.sipush 1640, 3) := by decide +kernel
theorem d_Model_init_669 : decode b_Model_init 669 = .ok (.newarray .int, 2) := by decide +kernel
theorem d_Model_init_671 : decode b_Model_init 671 = .ok (.putfield 243, 3) := by decide +kernel
theorem fl_Model_243 : Cond.fieldLink R_Model 243 "PointerHouseModel" "caught" "[I" ∈ lw_good := lg_right (i := 1933) (by decide +kernel) rfl
theorem d_Model_init_674 : decode b_Model_init 674 = .ok (.aload_n 0, 1) := by decide +kernel
theorem d_Model_init_675 : decode b_Model_init 675 = .ok (.sipush 900, 3) := by decide +kernel
theorem d_Model_init_678 : decode b_Model_init 678 = .ok (.newarray .int, 2) := by decide +kernel
theorem d_Model_init_680 : decode b_Model_init 680 = .ok (.putfield 246, 3) := by decide +kernel
theorem fl_Model_246 : Cond.fieldLink R_Model 246 "PointerHouseModel" "tryCode" "[I" ∈ lw_good := lg_right (i := 1935) (by decide +kernel) rfl
theorem d_Model_init_683 : decode b_Model_init 683 = .ok (.aload_n 0, 1) := by decide +kernel
theorem d_Model_init_684 : decode b_Model_init 684 = .ok (.sipush 900, 3) := by decide +kernel
theorem d_Model_init_687 : decode b_Model_init 687 = .ok (.newarray .int, 2) := by decide +kernel
theorem d_Model_init_689 : decode b_Model_init 689 = .ok (.putfield 249, 3) := by decide +kernel
theorem fl_Model_249 : Cond.fieldLink R_Model 249 "PointerHouseModel" "tryDepth" "[I" ∈ lw_good := lg_right (i := 1936) (by decide +kernel) rfl
theorem d_Model_init_692 : decode b_Model_init 692 = .ok (.aload_n 0, 1) := by decide +kernel
theorem d_Model_init_693 : decode b_Model_init 693 = .ok (.sipush 900, 3) := by decide +kernel
theorem d_Model_init_696 : decode b_Model_init 696 = .ok (.newarray .int, 2) := by decide +kernel
theorem d_Model_init_698 : decode b_Model_init 698 = .ok (.putfield 252, 3) := by decide +kernel
theorem fl_Model_252 : Cond.fieldLink R_Model 252 "PointerHouseModel" "tryHeight" "[I" ∈ lw_good := lg_right (i := 1937) (by decide +kernel) rfl
theorem d_Model_init_701 : decode b_Model_init 701 = .ok (.aload_n 0, 1) := by decide +kernel
theorem d_Model_init_702 : decode b_Model_init 702 = .ok (.sipush 900, 3) := by decide +kernel
theorem d_Model_init_705 : decode b_Model_init 705 = .ok (.newarray .int, 2) := by decide +kernel
theorem d_Model_init_707 : decode b_Model_init 707 = .ok (.putfield 255, 3) := by decide +kernel
theorem fl_Model_255 : Cond.fieldLink R_Model 255 "PointerHouseModel" "tryRegions" "[I" ∈ lw_good := lg_right (i := 1938) (by decide +kernel) rfl
theorem d_Model_init_710 : decode b_Model_init 710 = .ok (.aload_n 0, 1) := by decide +kernel
theorem d_Model_init_711 : decode b_Model_init 711 = .ok (.sipush 900, 3) := by decide +kernel
theorem d_Model_init_714 : decode b_Model_init 714 = .ok (.newarray .int, 2) := by decide +kernel
theorem d_Model_init_716 : decode b_Model_init 716 = .ok (.putfield 258, 3) := by decide +kernel
theorem fl_Model_258 : Cond.fieldLink R_Model 258 "PointerHouseModel" "tryCatch" "[I" ∈ lw_good := lg_right (i := 1939) (by decide +kernel) rfl
theorem d_Model_init_719 : decode b_Model_init 719 = .ok (.aload_n 0, 1) := by decide +kernel
theorem d_Model_init_720 : decode b_Model_init 720 = .ok (.sipush 400, 3) := by decide +kernel
theorem d_Model_init_723 : decode b_Model_init 723 = .ok (.newarray .int, 2) := by decide +kernel
theorem d_Model_init_725 : decode b_Model_init 725 = .ok (.putfield 261, 3) := by decide +kernel
theorem d_Model_init_728 : decode b_Model_init 728 = .ok (.aload_n 0, 1) := by decide +kernel
theorem d_Model_init_729 : decode b_Model_init 729 = .ok (.sipush 400, 3) := by decide +kernel
theorem d_Model_init_732 : decode b_Model_init 732 = .ok (.newarray .int, 2) := by decide +kernel
theorem d_Model_init_734 : decode b_Model_init 734 = .ok (.putfield 264, 3) := by decide +kernel
theorem fl_Model_264 : Cond.fieldLink R_Model 264 "PointerHouseModel" "lastUsed" "[I" ∈ lw_good := lg_right (i := 1945) (by decide +kernel) rfl
theorem d_Model_init_737 : decode b_Model_init 737 = .ok (.aload_n 0, 1) := by decide +kernel
theorem d_Model_init_738 : decode b_Model_init 738 = .ok (.sipush 400, 3) := by decide +kernel
theorem d_Model_init_741 : decode b_Model_init 741 = .ok (.newarray .int, 2) := by decide +kernel
theorem d_Model_init_743 : decode b_Model_init 743 = .ok (.putfield 267, 3) := by decide +kernel
theorem d_Model_init_746 : decode b_Model_init 746 = .ok (.aload_n 0, 1) := by decide +kernel
theorem d_Model_init_747 : decode b_Model_init 747 = .ok (.sipush 400, 3) := by decide +kernel
theorem d_Model_init_750 : decode b_Model_init 750 = .ok (.newarray .int, 2) := by decide +kernel
theorem d_Model_init_752 : decode b_Model_init 752 = .ok (.putfield 270, 3) := by decide +kernel
theorem d_Model_init_755 : decode b_Model_init 755 = .ok (.aload_n 0, 1) := by decide +kernel
theorem d_Model_init_756 : decode b_Model_init 756 = .ok (.sipush 4096, 3) := by decide +kernel
theorem d_Model_init_759 : decode b_Model_init 759 = .ok (.newarray .int, 2) := by decide +kernel
theorem d_Model_init_761 : decode b_Model_init 761 = .ok (.putfield 273, 3) := by decide +kernel
theorem d_Model_init_764 : decode b_Model_init 764 = .ok (.aload_n 0, 1) := by decide +kernel
theorem d_Model_init_765 : decode b_Model_init 765 = .ok (.sipush 4096, 3) := by decide +kernel
theorem d_Model_init_768 : decode b_Model_init 768 = .ok (.newarray .int, 2) := by decide +kernel
theorem d_Model_init_770 : decode b_Model_init 770 = .ok (.putfield 276, 3) := by decide +kernel
theorem fl_Model_276 : Cond.fieldLink R_Model 276 "PointerHouseModel" "head" "[I" ∈ lw_good := lg_right (i := 1950) (by decide +kernel) rfl
theorem d_Model_init_773 : decode b_Model_init 773 = .ok (.aload_n 0, 1) := by decide +kernel
theorem d_Model_init_774 : decode b_Model_init 774 = .ok (.sipush 4096, 3) := by decide +kernel
theorem d_Model_init_777 : decode b_Model_init 777 = .ok (.newarray .int, 2) := by decide +kernel
theorem d_Model_init_779 : decode b_Model_init 779 = .ok (.putfield 279, 3) := by decide +kernel
theorem fl_Model_279 : Cond.fieldLink R_Model 279 "PointerHouseModel" "places" "[I" ∈ lw_good := lg_right (i := 1951) (by decide +kernel) rfl
theorem d_Model_init_782 : decode b_Model_init 782 = .ok (.aload_n 0, 1) := by decide +kernel
theorem d_Model_init_783 : decode b_Model_init 783 = .ok (.sipush 4096, 3) := by decide +kernel
theorem d_Model_init_786 : decode b_Model_init 786 = .ok (.newarray .int, 2) := by decide +kernel
theorem d_Model_init_788 : decode b_Model_init 788 = .ok (.putfield 282, 3) := by decide +kernel
theorem fl_Model_282 : Cond.fieldLink R_Model 282 "PointerHouseModel" "home" "[I" ∈ lw_good := lg_right (i := 1952) (by decide +kernel) rfl
theorem d_Model_init_791 : decode b_Model_init 791 = .ok (.aload_n 0, 1) := by decide +kernel
theorem d_Model_init_792 : decode b_Model_init 792 = .ok (.sipush 4096, 3) := by decide +kernel
theorem d_Model_init_795 : decode b_Model_init 795 = .ok (.newarray .int, 2) := by decide +kernel
