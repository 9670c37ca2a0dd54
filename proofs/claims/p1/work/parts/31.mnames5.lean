theorem d_Model_init_797 : decode b_Model_init 797 = .ok (.putfield 285, 3) := by decide +kernel
theorem fl_Model_285 : Cond.fieldLink R_Model 285 "PointerHouseModel" "isNow" "[I" ∈ lw_good := lg_right (i := 1953) (by decide +kernel) rfl
theorem d_Model_init_800 : decode b_Model_init 800 = .ok (.aload_n 0, 1) := by decide +kernel
theorem d_Model_init_801 : decode b_Model_init 801 = .ok (.sipush 4096, 3) := by decide +kernel
theorem d_Model_init_804 : decode b_Model_init 804 = .ok (.newarray .int, 2) := by decide +kernel
theorem d_Model_init_806 : decode b_Model_init 806 = .ok (.putfield 288, 3) := by decide +kernel
theorem fl_Model_288 : Cond.fieldLink R_Model 288 "PointerHouseModel" "px" "[I" ∈ lw_good := lg_right (i := 1955) (by decide +kernel) rfl
theorem d_Model_init_809 : decode b_Model_init 809 = .ok (.aload_n 0, 1) := by decide +kernel
theorem d_Model_init_810 : decode b_Model_init 810 = .ok (.sipush 4096, 3) := by decide +kernel
theorem d_Model_init_813 : decode b_Model_init 813 = .ok (.newarray .int, 2) := by decide +kernel
theorem d_Model_init_815 : decode b_Model_init 815 = .ok (.putfield 291, 3) := by decide +kernel
theorem fl_Model_291 : Cond.fieldLink R_Model 291 "PointerHouseModel" "py" "[I" ∈ lw_good := lg_right (i := 1956) (by decide +kernel) rfl
theorem d_Model_init_818 : decode b_Model_init 818 = .ok (.aload_n 0, 1) := by decide +kernel
theorem d_Model_init_819 : decode b_Model_init 819 = .ok (.sipush 4096, 3) := by decide +kernel
theorem d_Model_init_822 : decode b_Model_init 822 = .ok (.newarray .int, 2) := by decide +kernel
theorem d_Model_init_824 : decode b_Model_init 824 = .ok (.putfield 294, 3) := by decide +kernel
theorem fl_Model_294 : Cond.fieldLink R_Model 294 "PointerHouseModel" "pz" "[I" ∈ lw_good := lg_right (i := 1957) (by decide +kernel) rfl
theorem d_Model_init_827 : decode b_Model_init 827 = .ok (.aload_n 0, 1) := by decide +kernel
theorem d_Model_init_828 : decode b_Model_init 828 = .ok (.sipush 4096, 3) := by decide +kernel
theorem d_Model_init_831 : decode b_Model_init 831 = .ok (.newarray .int, 2) := by decide +kernel
theorem d_Model_init_833 : decode b_Model_init 833 = .ok (.putfield 297, 3) := by decide +kernel
theorem fl_Model_297 : Cond.fieldLink R_Model 297 "PointerHouseModel" "pRowed" "[I" ∈ lw_good := lg_right (i := 1958) (by decide +kernel) rfl
theorem d_Model_init_836 : decode b_Model_init 836 = .ok (.aload_n 0, 1) := by decide +kernel
theorem d_Model_init_837 : decode b_Model_init 837 = .ok (.sipush 4096, 3) := by decide +kernel
theorem d_Model_init_840 : decode b_Model_init 840 = .ok (.newarray .boolean, 2) := by decide +kernel
theorem d_Model_init_842 : decode b_Model_init 842 = .ok (.putfield 300, 3) := by decide +kernel
theorem fl_Model_300 : Cond.fieldLink R_Model 300 "PointerHouseModel" "given" "[Z" ∈ lw_good := lg_right (i := 1959) (by decide +kernel) rfl
theorem d_Model_init_845 : decode b_Model_init 845 = .ok (.aload_n 0, 1) := by decide +kernel
theorem d_Model_init_846 : decode b_Model_init 846 = .ok (.sipush 4096, 3) := by decide +kernel
theorem d_Model_init_849 : decode b_Model_init 849 = .ok (.newarray .int, 2) := by decide +kernel
theorem d_Model_init_851 : decode b_Model_init 851 = .ok (.putfield 304, 3) := by decide +kernel
theorem d_Model_init_854 : decode b_Model_init 854 = .ok (.aload_n 0, 1) := by decide +kernel
theorem d_Model_init_855 : decode b_Model_init 855 = .ok (.bipush 100, 2) := by decide +kernel
theorem d_Model_init_857 : decode b_Model_init 857 = .ok (.newarray .int, 2) := by decide +kernel
theorem d_Model_init_859 : decode b_Model_init 859 = .ok (.putfield 307, 3) := by decide +kernel
theorem fl_Model_307 : Cond.fieldLink R_Model 307 "PointerHouseModel" "inputs" "[I" ∈ lw_good := lg_right (i := 1962) (by decide +kernel) rfl
theorem d_Model_init_862 : decode b_Model_init 862 = .ok (.aload_n 0, 1) := by decide +kernel
theorem d_Model_init_863 : decode b_Model_init 863 = .ok (.sipush 300, 3) := by decide +kernel
theorem d_Model_init_866 : decode b_Model_init 866 = .ok (.newarray .int, 2) := by decide +kernel
theorem d_Model_init_868 : decode b_Model_init 868 = .ok (.putfield 310, 3) := by decide +kernel
theorem d_Model_init_871 : decode b_Model_init 871 = .ok (.aload_n 0, 1) := by decide +kernel
theorem d_Model_init_872 : decode b_Model_init 872 = .ok (.iconst 0, 1) := by decide +kernel
theorem d_Model_init_873 : decode b_Model_init 873 = .ok (.putfield 313, 3) := by decide +kernel
theorem d_Model_init_876 : decode b_Model_init 876 = .ok (.return_, 1) := by decide +kernel
