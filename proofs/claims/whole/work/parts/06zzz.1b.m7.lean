abbrev b_Model_make : ByteArray := prog_14_method_113_code
abbrev y_Model_make : MethodName := ⟨R_Model, "make", "(IJI)I"⟩
theorem co_Model_make : Cond.code y_Model_make b_Model_make 10 (some .int) ∈ lw_good := lg_in (tin_12 _ (List.mem_of_getElem? (i := 162) rfl)) rfl
abbrev w_Model_make : List Cond := Cond.code y_Model_make b_Model_make 10 (some .int) :: lw_good
theorem im_Model_make : Cond.instanceMethod y_Model_make ∈ lw_good := lg_right (i := 2801) (by decide +kernel) rfl
theorem se_Model_make : Cond.selects R_Model y_Model_make y_Model_make ∈ lw_good := lg_left (i := 224) (by decide +kernel) rfl
theorem d_Model_make_0 : decode b_Model_make 0 = .ok (.lload_n 2, 1) := by decide +kernel
theorem d_Model_make_1 : decode b_Model_make 1 = .ok (.aload_n 0, 1) := by decide +kernel
theorem d_Model_make_2 : decode b_Model_make 2 = .ok (.getfield 844, 3) := by decide +kernel
theorem fl_Model_844 : Cond.fieldLink R_Model 844 "PointerHouseModel" "words" "I" ∈ lw_good := lg_right (i := 1950) (by decide +kernel) rfl
theorem d_Model_make_5 : decode b_Model_make 5 = .ok (.i2l, 1) := by decide +kernel
theorem d_Model_make_6 : decode b_Model_make 6 = .ok (.lcmp, 1) := by decide +kernel
theorem d_Model_make_7 : decode b_Model_make 7 = .ok (.ifCond .le 10, 3) := by decide +kernel
theorem d_Model_make_10 : decode b_Model_make 10 = .ok (.aload_n 0, 1) := by decide +kernel
theorem d_Model_make_11 : decode b_Model_make 11 = .ok (.iconst 5, 1) := by decide +kernel
theorem d_Model_make_12 : decode b_Model_make 12 = .ok (.invokevirtual 847, 3) := by decide +kernel
theorem ml_Model_847 : Cond.methodLink R_Model 847 ⟨"PointerHouseModel", "raise", "(I)V"⟩ ∈ lw_good := lg_right (i := 2787) (by decide +kernel) rfl
theorem d_Model_make_15 : decode b_Model_make 15 = .ok (.iconst (-1), 1) := by decide +kernel
theorem d_Model_make_16 : decode b_Model_make 16 = .ok (.ireturn, 1) := by decide +kernel
theorem d_Model_make_17 : decode b_Model_make 17 = .ok (.lload_n 2, 1) := by decide +kernel
theorem d_Model_make_18 : decode b_Model_make 18 = .ok (.l2i, 1) := by decide +kernel
theorem d_Model_make_19 : decode b_Model_make 19 = .ok (.istore 5, 2) := by decide +kernel
theorem d_Model_make_21 : decode b_Model_make 21 = .ok (.iload 5, 2) := by decide +kernel
theorem d_Model_make_23 : decode b_Model_make 23 = .ok (.ifCond .eq 28, 3) := by decide +kernel
theorem d_Model_make_26 : decode b_Model_make 26 = .ok (.aload_n 0, 1) := by decide +kernel
theorem d_Model_make_27 : decode b_Model_make 27 = .ok (.getfield 261, 3) := by decide +kernel
theorem d_Model_make_30 : decode b_Model_make 30 = .ok (.iload_n 1, 1) := by decide +kernel
theorem d_Model_make_31 : decode b_Model_make 31 = .ok (.iaload, 1) := by decide +kernel
theorem d_Model_make_32 : decode b_Model_make 32 = .ok (.ifCond .le 23, 3) := by decide +kernel
theorem d_Model_make_35 : decode b_Model_make 35 = .ok (.aload_n 0, 1) := by decide +kernel
theorem d_Model_make_36 : decode b_Model_make 36 = .ok (.getfield 264, 3) := by decide +kernel
theorem d_Model_make_39 : decode b_Model_make 39 = .ok (.iload_n 1, 1) := by decide +kernel
theorem d_Model_make_40 : decode b_Model_make 40 = .ok (.iaload, 1) := by decide +kernel
theorem d_Model_make_41 : decode b_Model_make 41 = .ok (.iload 5, 2) := by decide +kernel
theorem d_Model_make_43 : decode b_Model_make 43 = .ok (.iadd, 1) := by decide +kernel
theorem d_Model_make_44 : decode b_Model_make 44 = .ok (.aload_n 0, 1) := by decide +kernel
theorem d_Model_make_45 : decode b_Model_make 45 = .ok (.getfield 844, 3) := by decide +kernel
theorem d_Model_make_48 : decode b_Model_make 48 = .ok (.if_icmp .gt 7, 3) := by decide +kernel
theorem d_Model_make_51 : decode b_Model_make 51 = .ok (.iconst 1, 1) := by decide +kernel
theorem d_Model_make_52 : decode b_Model_make 52 = .ok (.goto 4, 3) := by decide +kernel
theorem d_Model_make_55 : decode b_Model_make 55 = .ok (.iconst 0, 1) := by decide +kernel
theorem d_Model_make_56 : decode b_Model_make 56 = .ok (.istore 6, 2) := by decide +kernel
theorem d_Model_make_58 : decode b_Model_make 58 = .ok (.iload 6, 2) := by decide +kernel
theorem d_Model_make_60 : decode b_Model_make 60 = .ok (.ifCond .ne 17, 3) := by decide +kernel
theorem d_Model_make_63 : decode b_Model_make 63 = .ok (.aload_n 0, 1) := by decide +kernel
theorem d_Model_make_64 : decode b_Model_make 64 = .ok (.getfield 838, 3) := by decide +kernel
theorem d_Model_make_67 : decode b_Model_make 67 = .ok (.ifCond .ne 10, 3) := by decide +kernel
theorem d_Model_make_70 : decode b_Model_make 70 = .ok (.aload_n 0, 1) := by decide +kernel
theorem d_Model_make_71 : decode b_Model_make 71 = .ok (.iconst 4, 1) := by decide +kernel
theorem d_Model_make_72 : decode b_Model_make 72 = .ok (.putfield 802, 3) := by decide +kernel
theorem d_Model_make_75 : decode b_Model_make 75 = .ok (.iconst (-1), 1) := by decide +kernel
theorem d_Model_make_76 : decode b_Model_make 76 = .ok (.ireturn, 1) := by decide +kernel
theorem d_Model_make_77 : decode b_Model_make 77 = .ok (.iload 6, 2) := by decide +kernel
theorem d_Model_make_79 : decode b_Model_make 79 = .ok (.ifCond .ne 30, 3) := by decide +kernel
theorem d_Model_make_82 : decode b_Model_make 82 = .ok (.aload_n 0, 1) := by decide +kernel
theorem d_Model_make_83 : decode b_Model_make 83 = .ok (.dup, 1) := by decide +kernel
theorem d_Model_make_84 : decode b_Model_make 84 = .ok (.getfield 838, 3) := by decide +kernel
theorem d_Model_make_87 : decode b_Model_make 87 = .ok (.iconst 1, 1) := by decide +kernel
theorem d_Model_make_88 : decode b_Model_make 88 = .ok (.isub, 1) := by decide +kernel
theorem d_Model_make_89 : decode b_Model_make 89 = .ok (.putfield 838, 3) := by decide +kernel
theorem d_Model_make_92 : decode b_Model_make 92 = .ok (.aload_n 0, 1) := by decide +kernel
theorem d_Model_make_93 : decode b_Model_make 93 = .ok (.getfield 261, 3) := by decide +kernel
theorem d_Model_make_96 : decode b_Model_make 96 = .ok (.iload_n 1, 1) := by decide +kernel
theorem d_Model_make_97 : decode b_Model_make 97 = .ok (.dup2, 1) := by decide +kernel
theorem d_Model_make_98 : decode b_Model_make 98 = .ok (.iaload, 1) := by decide +kernel
theorem d_Model_make_99 : decode b_Model_make 99 = .ok (.iconst 1, 1) := by decide +kernel
theorem d_Model_make_100 : decode b_Model_make 100 = .ok (.iadd, 1) := by decide +kernel
theorem d_Model_make_101 : decode b_Model_make 101 = .ok (.iastore, 1) := by decide +kernel
theorem d_Model_make_102 : decode b_Model_make 102 = .ok (.aload_n 0, 1) := by decide +kernel
theorem d_Model_make_103 : decode b_Model_make 103 = .ok (.getfield 264, 3) := by decide +kernel
theorem d_Model_make_106 : decode b_Model_make 106 = .ok (.iload_n 1, 1) := by decide +kernel
theorem d_Model_make_107 : decode b_Model_make 107 = .ok (.iconst 0, 1) := by decide +kernel
theorem d_Model_make_108 : decode b_Model_make 108 = .ok (.iastore, 1) := by decide +kernel
theorem d_Model_make_109 : decode b_Model_make 109 = .ok (.aload_n 0, 1) := by decide +kernel
theorem d_Model_make_110 : decode b_Model_make 110 = .ok (.dup, 1) := by decide +kernel
theorem d_Model_make_111 : decode b_Model_make 111 = .ok (.getfield 814, 3) := by decide +kernel
theorem d_Model_make_114 : decode b_Model_make 114 = .ok (.iconst 1, 1) := by decide +kernel
theorem d_Model_make_115 : decode b_Model_make 115 = .ok (.iadd, 1) := by decide +kernel
theorem d_Model_make_116 : decode b_Model_make 116 = .ok (.putfield 814, 3) := by decide +kernel
theorem d_Model_make_119 : decode b_Model_make 119 = .ok (.aload_n 0, 1) := by decide +kernel
theorem d_Model_make_120 : decode b_Model_make 120 = .ok (.getfield 270, 3) := by decide +kernel
theorem d_Model_make_123 : decode b_Model_make 123 = .ok (.iload_n 1, 1) := by decide +kernel
theorem d_Model_make_124 : decode b_Model_make 124 = .ok (.dup2, 1) := by decide +kernel
theorem d_Model_make_125 : decode b_Model_make 125 = .ok (.iaload, 1) := by decide +kernel
theorem d_Model_make_126 : decode b_Model_make 126 = .ok (.iconst 1, 1) := by decide +kernel
theorem d_Model_make_127 : decode b_Model_make 127 = .ok (.iadd, 1) := by decide +kernel
theorem d_Model_make_128 : decode b_Model_make 128 = .ok (.iastore, 1) := by decide +kernel
theorem d_Model_make_129 : decode b_Model_make 129 = .ok (.iload 5, 2) := by decide +kernel
theorem d_Model_make_131 : decode b_Model_make 131 = .ok (.ifCond .ne 6, 3) := by decide +kernel
theorem d_Model_make_134 : decode b_Model_make 134 = .ok (.bipush (-2), 2) := by decide +kernel
theorem d_Model_make_136 : decode b_Model_make 136 = .ok (.ireturn, 1) := by decide +kernel
theorem d_Model_make_137 : decode b_Model_make 137 = .ok (.aload_n 0, 1) := by decide +kernel
theorem d_Model_make_138 : decode b_Model_make 138 = .ok (.getfield 264, 3) := by decide +kernel
theorem d_Model_make_141 : decode b_Model_make 141 = .ok (.iload_n 1, 1) := by decide +kernel
theorem d_Model_make_142 : decode b_Model_make 142 = .ok (.dup2, 1) := by decide +kernel
theorem d_Model_make_143 : decode b_Model_make 143 = .ok (.iaload, 1) := by decide +kernel
theorem d_Model_make_144 : decode b_Model_make 144 = .ok (.iload 5, 2) := by decide +kernel
theorem d_Model_make_146 : decode b_Model_make 146 = .ok (.iadd, 1) := by decide +kernel
theorem d_Model_make_147 : decode b_Model_make 147 = .ok (.iastore, 1) := by decide +kernel
theorem d_Model_make_148 : decode b_Model_make 148 = .ok (.aload_n 0, 1) := by decide +kernel
theorem d_Model_make_149 : decode b_Model_make 149 = .ok (.getfield 267, 3) := by decide +kernel
theorem d_Model_make_152 : decode b_Model_make 152 = .ok (.iload_n 1, 1) := by decide +kernel
theorem d_Model_make_153 : decode b_Model_make 153 = .ok (.dup2, 1) := by decide +kernel
theorem d_Model_make_154 : decode b_Model_make 154 = .ok (.iaload, 1) := by decide +kernel
theorem d_Model_make_155 : decode b_Model_make 155 = .ok (.iload 5, 2) := by decide +kernel
theorem d_Model_make_157 : decode b_Model_make 157 = .ok (.iadd, 1) := by decide +kernel
theorem d_Model_make_158 : decode b_Model_make 158 = .ok (.iastore, 1) := by decide +kernel
theorem d_Model_make_159 : decode b_Model_make 159 = .ok (.iconst 0, 1) := by decide +kernel
theorem d_Model_make_160 : decode b_Model_make 160 = .ok (.istore 7, 2) := by decide +kernel
theorem d_Model_make_162 : decode b_Model_make 162 = .ok (.aload_n 0, 1) := by decide +kernel
theorem d_Model_make_163 : decode b_Model_make 163 = .ok (.getfield 273, 3) := by decide +kernel
theorem d_Model_make_166 : decode b_Model_make 166 = .ok (.iload 7, 2) := by decide +kernel
theorem d_Model_make_168 : decode b_Model_make 168 = .ok (.iaload, 1) := by decide +kernel
theorem d_Model_make_169 : decode b_Model_make 169 = .ok (.ifCond .eq 9, 3) := by decide +kernel
theorem d_Model_make_172 : decode b_Model_make 172 = .ok (.iinc 7 1, 3) := by decide +kernel
theorem d_Model_make_175 : decode b_Model_make 175 = .ok (.goto (-13), 3) := by decide +kernel
theorem d_Model_make_178 : decode b_Model_make 178 = .ok (.aload_n 0, 1) := by decide +kernel
theorem d_Model_make_179 : decode b_Model_make 179 = .ok (.dup, 1) := by decide +kernel
theorem d_Model_make_180 : decode b_Model_make 180 = .ok (.getfield 850, 3) := by decide +kernel
theorem fl_Model_850 : Cond.fieldLink R_Model 850 "PointerHouseModel" "births" "I" ∈ lw_good := lg_right (i := 1956) (by decide +kernel) rfl
theorem d_Model_make_183 : decode b_Model_make 183 = .ok (.iconst 1, 1) := by decide +kernel
theorem d_Model_make_184 : decode b_Model_make 184 = .ok (.iadd, 1) := by decide +kernel
theorem d_Model_make_185 : decode b_Model_make 185 = .ok (.putfield 850, 3) := by decide +kernel
theorem d_Model_make_188 : decode b_Model_make 188 = .ok (.aload_n 0, 1) := by decide +kernel
theorem d_Model_make_189 : decode b_Model_make 189 = .ok (.getfield 273, 3) := by decide +kernel
theorem d_Model_make_192 : decode b_Model_make 192 = .ok (.iload 7, 2) := by decide +kernel
theorem d_Model_make_194 : decode b_Model_make 194 = .ok (.aload_n 0, 1) := by decide +kernel
theorem d_Model_make_195 : decode b_Model_make 195 = .ok (.getfield 850, 3) := by decide +kernel
theorem d_Model_make_198 : decode b_Model_make 198 = .ok (.iastore, 1) := by decide +kernel
theorem d_Model_make_199 : decode b_Model_make 199 = .ok (.aload_n 0, 1) := by decide +kernel
theorem d_Model_make_200 : decode b_Model_make 200 = .ok (.getfield 282, 3) := by decide +kernel
theorem d_Model_make_203 : decode b_Model_make 203 = .ok (.iload 7, 2) := by decide +kernel
theorem d_Model_make_205 : decode b_Model_make 205 = .ok (.iload_n 1, 1) := by decide +kernel
theorem d_Model_make_206 : decode b_Model_make 206 = .ok (.iastore, 1) := by decide +kernel
theorem d_Model_make_207 : decode b_Model_make 207 = .ok (.aload_n 0, 1) := by decide +kernel
theorem d_Model_make_208 : decode b_Model_make 208 = .ok (.getfield 279, 3) := by decide +kernel
theorem fl_Model_279 : Cond.fieldLink R_Model 279 "PointerHouseModel" "places" "[I" ∈ lw_good := lg_right (i := 1959) (by decide +kernel) rfl
theorem d_Model_make_211 : decode b_Model_make 211 = .ok (.iload 7, 2) := by decide +kernel
theorem d_Model_make_213 : decode b_Model_make 213 = .ok (.iload 4, 2) := by decide +kernel
theorem d_Model_make_215 : decode b_Model_make 215 = .ok (.iastore, 1) := by decide +kernel
theorem d_Model_make_216 : decode b_Model_make 216 = .ok (.aload_n 0, 1) := by decide +kernel
theorem d_Model_make_217 : decode b_Model_make 217 = .ok (.getfield 285, 3) := by decide +kernel
theorem fl_Model_285 : Cond.fieldLink R_Model 285 "PointerHouseModel" "isNow" "[I" ∈ lw_good := lg_right (i := 1961) (by decide +kernel) rfl
theorem d_Model_make_220 : decode b_Model_make 220 = .ok (.iload 7, 2) := by decide +kernel
theorem d_Model_make_222 : decode b_Model_make 222 = .ok (.iconst (-1), 1) := by decide +kernel
theorem d_Model_make_223 : decode b_Model_make 223 = .ok (.iastore, 1) := by decide +kernel
theorem d_Model_make_224 : decode b_Model_make 224 = .ok (.aload_n 0, 1) := by decide +kernel
theorem d_Model_make_225 : decode b_Model_make 225 = .ok (.getfield 276, 3) := by decide +kernel
theorem d_Model_make_228 : decode b_Model_make 228 = .ok (.iload 7, 2) := by decide +kernel
theorem d_Model_make_230 : decode b_Model_make 230 = .ok (.iconst (-1), 1) := by decide +kernel
theorem d_Model_make_231 : decode b_Model_make 231 = .ok (.iastore, 1) := by decide +kernel
theorem d_Model_make_232 : decode b_Model_make 232 = .ok (.iconst 0, 1) := by decide +kernel
theorem d_Model_make_233 : decode b_Model_make 233 = .ok (.istore 8, 2) := by decide +kernel
theorem d_Model_make_235 : decode b_Model_make 235 = .ok (.iload 8, 2) := by decide +kernel
theorem d_Model_make_237 : decode b_Model_make 237 = .ok (.iload 4, 2) := by decide +kernel
theorem d_Model_make_239 : decode b_Model_make 239 = .ok (.if_icmp .ge 57, 3) := by decide +kernel
theorem d_Model_make_242 : decode b_Model_make 242 = .ok (.aload_n 0, 1) := by decide +kernel
theorem d_Model_make_243 : decode b_Model_make 243 = .ok (.getfield 841, 3) := by decide +kernel
theorem d_Model_make_246 : decode b_Model_make 246 = .ok (.istore 9, 2) := by decide +kernel
theorem d_Model_make_248 : decode b_Model_make 248 = .ok (.aload_n 0, 1) := by decide +kernel
theorem d_Model_make_249 : decode b_Model_make 249 = .ok (.aload_n 0, 1) := by decide +kernel
theorem d_Model_make_250 : decode b_Model_make 250 = .ok (.getfield 304, 3) := by decide +kernel
theorem d_Model_make_253 : decode b_Model_make 253 = .ok (.iload 9, 2) := by decide +kernel
theorem d_Model_make_255 : decode b_Model_make 255 = .ok (.iaload, 1) := by decide +kernel
theorem d_Model_make_256 : decode b_Model_make 256 = .ok (.putfield 841, 3) := by decide +kernel
theorem d_Model_make_259 : decode b_Model_make 259 = .ok (.aload_n 0, 1) := by decide +kernel
theorem d_Model_make_260 : decode b_Model_make 260 = .ok (.getfield 304, 3) := by decide +kernel
theorem d_Model_make_263 : decode b_Model_make 263 = .ok (.iload 9, 2) := by decide +kernel
theorem d_Model_make_265 : decode b_Model_make 265 = .ok (.aload_n 0, 1) := by decide +kernel
theorem d_Model_make_266 : decode b_Model_make 266 = .ok (.getfield 276, 3) := by decide +kernel
theorem d_Model_make_269 : decode b_Model_make 269 = .ok (.iload 7, 2) := by decide +kernel
theorem d_Model_make_271 : decode b_Model_make 271 = .ok (.iaload, 1) := by decide +kernel
theorem d_Model_make_272 : decode b_Model_make 272 = .ok (.iastore, 1) := by decide +kernel
theorem d_Model_make_273 : decode b_Model_make 273 = .ok (.aload_n 0, 1) := by decide +kernel
theorem d_Model_make_274 : decode b_Model_make 274 = .ok (.getfield 276, 3) := by decide +kernel
theorem d_Model_make_277 : decode b_Model_make 277 = .ok (.iload 7, 2) := by decide +kernel
theorem d_Model_make_279 : decode b_Model_make 279 = .ok (.iload 9, 2) := by decide +kernel
theorem d_Model_make_281 : decode b_Model_make 281 = .ok (.iastore, 1) := by decide +kernel
theorem d_Model_make_282 : decode b_Model_make 282 = .ok (.aload_n 0, 1) := by decide +kernel
theorem d_Model_make_283 : decode b_Model_make 283 = .ok (.getfield 300, 3) := by decide +kernel
theorem fl_Model_300 : Cond.fieldLink R_Model 300 "PointerHouseModel" "given" "[Z" ∈ lw_good := lg_right (i := 1967) (by decide +kernel) rfl
theorem d_Model_make_286 : decode b_Model_make 286 = .ok (.iload 9, 2) := by decide +kernel
theorem d_Model_make_288 : decode b_Model_make 288 = .ok (.iconst 0, 1) := by decide +kernel
theorem d_Model_make_289 : decode b_Model_make 289 = .ok (.bastore, 1) := by decide +kernel
theorem d_Model_make_290 : decode b_Model_make 290 = .ok (.iinc 8 1, 3) := by decide +kernel
theorem d_Model_make_293 : decode b_Model_make 293 = .ok (.goto (-58), 3) := by decide +kernel
theorem d_Model_make_296 : decode b_Model_make 296 = .ok (.iload 7, 2) := by decide +kernel
theorem d_Model_make_298 : decode b_Model_make 298 = .ok (.ireturn, 1) := by decide +kernel
abbrev b_Model_raise : ByteArray := prog_14_method_117_code
abbrev y_Model_raise : MethodName := ⟨R_Model, "raise", "(I)V"⟩
theorem co_Model_raise : Cond.code y_Model_raise b_Model_raise 2 none ∈ lw_good := lg_in (tin_12 _ (List.mem_of_getElem? (i := 150) rfl)) rfl
abbrev w_Model_raise : List Cond := Cond.code y_Model_raise b_Model_raise 2 none :: lw_good
theorem im_Model_raise : Cond.instanceMethod y_Model_raise ∈ lw_good := lg_right (i := 2789) (by decide +kernel) rfl
theorem se_Model_raise : Cond.selects R_Model y_Model_raise y_Model_raise ∈ lw_good := lg_left (i := 221) (by decide +kernel) rfl
theorem d_Model_raise_0 : decode b_Model_raise 0 = .ok (.aload_n 0, 1) := by decide +kernel
theorem d_Model_raise_1 : decode b_Model_raise 1 = .ok (.dup, 1) := by decide +kernel
theorem d_Model_raise_2 : decode b_Model_raise 2 = .ok (.getfield 817, 3) := by decide +kernel
theorem d_Model_raise_5 : decode b_Model_raise 5 = .ok (.iconst 1, 1) := by decide +kernel
theorem d_Model_raise_6 : decode b_Model_raise 6 = .ok (.iadd, 1) := by decide +kernel
theorem d_Model_raise_7 : decode b_Model_raise 7 = .ok (.putfield 817, 3) := by decide +kernel
theorem d_Model_raise_10 : decode b_Model_raise 10 = .ok (.aload_n 0, 1) := by decide +kernel
theorem d_Model_raise_11 : decode b_Model_raise 11 = .ok (.getfield 832, 3) := by decide +kernel
theorem d_Model_raise_14 : decode b_Model_raise 14 = .ok (.ifCond .ne 14, 3) := by decide +kernel
theorem d_Model_raise_17 : decode b_Model_raise 17 = .ok (.aload_n 0, 1) := by decide +kernel
theorem d_Model_raise_18 : decode b_Model_raise 18 = .ok (.iconst 3, 1) := by decide +kernel
theorem d_Model_raise_19 : decode b_Model_raise 19 = .ok (.putfield 802, 3) := by decide +kernel
theorem d_Model_raise_22 : decode b_Model_raise 22 = .ok (.aload_n 0, 1) := by decide +kernel
theorem d_Model_raise_23 : decode b_Model_raise 23 = .ok (.iload_n 1, 1) := by decide +kernel
theorem d_Model_raise_24 : decode b_Model_raise 24 = .ok (.putfield 823, 3) := by decide +kernel
theorem d_Model_raise_27 : decode b_Model_raise 27 = .ok (.return_, 1) := by decide +kernel
theorem d_Model_raise_28 : decode b_Model_raise 28 = .ok (.aload_n 0, 1) := by decide +kernel
theorem d_Model_raise_29 : decode b_Model_raise 29 = .ok (.dup, 1) := by decide +kernel
theorem d_Model_raise_30 : decode b_Model_raise 30 = .ok (.getfield 832, 3) := by decide +kernel
theorem d_Model_raise_33 : decode b_Model_raise 33 = .ok (.iconst 1, 1) := by decide +kernel
theorem d_Model_raise_34 : decode b_Model_raise 34 = .ok (.isub, 1) := by decide +kernel
theorem d_Model_raise_35 : decode b_Model_raise 35 = .ok (.putfield 832, 3) := by decide +kernel
theorem d_Model_raise_38 : decode b_Model_raise 38 = .ok (.aload_n 0, 1) := by decide +kernel
theorem d_Model_raise_39 : decode b_Model_raise 39 = .ok (.aload_n 0, 1) := by decide +kernel
theorem d_Model_raise_40 : decode b_Model_raise 40 = .ok (.getfield 249, 3) := by decide +kernel
theorem fl_Model_249 : Cond.fieldLink R_Model 249 "PointerHouseModel" "tryDepth" "[I" ∈ lw_good := lg_right (i := 1944) (by decide +kernel) rfl
theorem d_Model_raise_43 : decode b_Model_raise 43 = .ok (.aload_n 0, 1) := by decide +kernel
theorem d_Model_raise_44 : decode b_Model_raise 44 = .ok (.getfield 832, 3) := by decide +kernel
theorem d_Model_raise_47 : decode b_Model_raise 47 = .ok (.iaload, 1) := by decide +kernel
theorem d_Model_raise_48 : decode b_Model_raise 48 = .ok (.putfield 808, 3) := by decide +kernel
theorem d_Model_raise_51 : decode b_Model_raise 51 = .ok (.aload_n 0, 1) := by decide +kernel
theorem d_Model_raise_52 : decode b_Model_raise 52 = .ok (.aload_n 0, 1) := by decide +kernel
theorem d_Model_raise_53 : decode b_Model_raise 53 = .ok (.getfield 252, 3) := by decide +kernel
theorem fl_Model_252 : Cond.fieldLink R_Model 252 "PointerHouseModel" "tryHeight" "[I" ∈ lw_good := lg_right (i := 1945) (by decide +kernel) rfl
theorem d_Model_raise_56 : decode b_Model_raise 56 = .ok (.aload_n 0, 1) := by decide +kernel
theorem d_Model_raise_57 : decode b_Model_raise 57 = .ok (.getfield 832, 3) := by decide +kernel
theorem d_Model_raise_60 : decode b_Model_raise 60 = .ok (.iaload, 1) := by decide +kernel
theorem d_Model_raise_61 : decode b_Model_raise 61 = .ok (.putfield 799, 3) := by decide +kernel
theorem d_Model_raise_64 : decode b_Model_raise 64 = .ok (.aload_n 0, 1) := by decide +kernel
theorem d_Model_raise_65 : decode b_Model_raise 65 = .ok (.aload_n 0, 1) := by decide +kernel
theorem d_Model_raise_66 : decode b_Model_raise 66 = .ok (.getfield 255, 3) := by decide +kernel
theorem fl_Model_255 : Cond.fieldLink R_Model 255 "PointerHouseModel" "tryRegions" "[I" ∈ lw_good := lg_right (i := 1946) (by decide +kernel) rfl
theorem d_Model_raise_69 : decode b_Model_raise 69 = .ok (.aload_n 0, 1) := by decide +kernel
theorem d_Model_raise_70 : decode b_Model_raise 70 = .ok (.getfield 832, 3) := by decide +kernel
theorem d_Model_raise_73 : decode b_Model_raise 73 = .ok (.iaload, 1) := by decide +kernel
theorem d_Model_raise_74 : decode b_Model_raise 74 = .ok (.invokevirtual 860, 3) := by decide +kernel
theorem ml_Model_860 : Cond.methodLink R_Model 860 ⟨"PointerHouseModel", "shrink", "(I)V"⟩ ∈ lw_good := lg_right (i := 2783) (by decide +kernel) rfl
theorem d_Model_raise_77 : decode b_Model_raise 77 = .ok (.aload_n 0, 1) := by decide +kernel
theorem d_Model_raise_78 : decode b_Model_raise 78 = .ok (.aload_n 0, 1) := by decide +kernel
theorem d_Model_raise_79 : decode b_Model_raise 79 = .ok (.getfield 246, 3) := by decide +kernel
theorem fl_Model_246 : Cond.fieldLink R_Model 246 "PointerHouseModel" "tryCode" "[I" ∈ lw_good := lg_right (i := 1943) (by decide +kernel) rfl
theorem d_Model_raise_82 : decode b_Model_raise 82 = .ok (.aload_n 0, 1) := by decide +kernel
theorem d_Model_raise_83 : decode b_Model_raise 83 = .ok (.getfield 832, 3) := by decide +kernel
theorem d_Model_raise_86 : decode b_Model_raise 86 = .ok (.iaload, 1) := by decide +kernel
theorem d_Model_raise_87 : decode b_Model_raise 87 = .ok (.putfield 863, 3) := by decide +kernel
theorem fl_Model_863 : Cond.fieldLink R_Model 863 "PointerHouseModel" "counter" "I" ∈ lw_good := lg_right (i := 1921) (by decide +kernel) rfl
theorem d_Model_raise_90 : decode b_Model_raise 90 = .ok (.aload_n 0, 1) := by decide +kernel
theorem d_Model_raise_91 : decode b_Model_raise 91 = .ok (.getfield 243, 3) := by decide +kernel
theorem fl_Model_243 : Cond.fieldLink R_Model 243 "PointerHouseModel" "caught" "[I" ∈ lw_good := lg_right (i := 1941) (by decide +kernel) rfl
theorem d_Model_raise_94 : decode b_Model_raise 94 = .ok (.bipush 40, 2) := by decide +kernel
theorem d_Model_raise_96 : decode b_Model_raise 96 = .ok (.aload_n 0, 1) := by decide +kernel
theorem d_Model_raise_97 : decode b_Model_raise 97 = .ok (.getfield 808, 3) := by decide +kernel
theorem d_Model_raise_100 : decode b_Model_raise 100 = .ok (.iconst 1, 1) := by decide +kernel
theorem d_Model_raise_101 : decode b_Model_raise 101 = .ok (.isub, 1) := by decide +kernel
theorem d_Model_raise_102 : decode b_Model_raise 102 = .ok (.imul, 1) := by decide +kernel
theorem d_Model_raise_103 : decode b_Model_raise 103 = .ok (.aload_n 0, 1) := by decide +kernel
theorem d_Model_raise_104 : decode b_Model_raise 104 = .ok (.getfield 258, 3) := by decide +kernel
theorem fl_Model_258 : Cond.fieldLink R_Model 258 "PointerHouseModel" "tryCatch" "[I" ∈ lw_good := lg_right (i := 1947) (by decide +kernel) rfl
theorem d_Model_raise_107 : decode b_Model_raise 107 = .ok (.aload_n 0, 1) := by decide +kernel
theorem d_Model_raise_108 : decode b_Model_raise 108 = .ok (.getfield 832, 3) := by decide +kernel
theorem d_Model_raise_111 : decode b_Model_raise 111 = .ok (.iaload, 1) := by decide +kernel
theorem d_Model_raise_112 : decode b_Model_raise 112 = .ok (.iadd, 1) := by decide +kernel
theorem d_Model_raise_113 : decode b_Model_raise 113 = .ok (.iload_n 1, 1) := by decide +kernel
theorem d_Model_raise_114 : decode b_Model_raise 114 = .ok (.iastore, 1) := by decide +kernel
theorem d_Model_raise_115 : decode b_Model_raise 115 = .ok (.return_, 1) := by decide +kernel
abbrev b_Model_placeOf : ByteArray := prog_14_method_114_code
abbrev y_Model_placeOf : MethodName := ⟨R_Model, "placeOf", "(III)I"⟩
theorem co_Model_placeOf : Cond.code y_Model_placeOf b_Model_placeOf 6 (some .int) ∈ lw_good := lg_in (tin_12 _ (List.mem_of_getElem? (i := 170) rfl)) rfl
abbrev w_Model_placeOf : List Cond := Cond.code y_Model_placeOf b_Model_placeOf 6 (some .int) :: lw_good
theorem im_Model_placeOf : Cond.instanceMethod y_Model_placeOf ∈ lw_good := lg_right (i := 2809) (by decide +kernel) rfl
theorem se_Model_placeOf : Cond.selects R_Model y_Model_placeOf y_Model_placeOf ∈ lw_good := lg_left (i := 226) (by decide +kernel) rfl
theorem d_Model_placeOf_0 : decode b_Model_placeOf 0 = .ok (.iload_n 1, 1) := by decide +kernel
theorem d_Model_placeOf_1 : decode b_Model_placeOf 1 = .ok (.ifCond .lt 27, 3) := by decide +kernel
theorem d_Model_placeOf_4 : decode b_Model_placeOf 4 = .ok (.aload_n 0, 1) := by decide +kernel
theorem d_Model_placeOf_5 : decode b_Model_placeOf 5 = .ok (.getfield 273, 3) := by decide +kernel
theorem d_Model_placeOf_8 : decode b_Model_placeOf 8 = .ok (.iload_n 1, 1) := by decide +kernel
theorem d_Model_placeOf_9 : decode b_Model_placeOf 9 = .ok (.iaload, 1) := by decide +kernel
theorem d_Model_placeOf_10 : decode b_Model_placeOf 10 = .ok (.iload_n 2, 1) := by decide +kernel
theorem d_Model_placeOf_11 : decode b_Model_placeOf 11 = .ok (.if_icmp .ne 17, 3) := by decide +kernel
theorem d_Model_placeOf_14 : decode b_Model_placeOf 14 = .ok (.iload_n 3, 1) := by decide +kernel
theorem d_Model_placeOf_15 : decode b_Model_placeOf 15 = .ok (.ifCond .lt 13, 3) := by decide +kernel
theorem d_Model_placeOf_18 : decode b_Model_placeOf 18 = .ok (.iload_n 3, 1) := by decide +kernel
theorem d_Model_placeOf_19 : decode b_Model_placeOf 19 = .ok (.aload_n 0, 1) := by decide +kernel
theorem d_Model_placeOf_20 : decode b_Model_placeOf 20 = .ok (.getfield 279, 3) := by decide +kernel
theorem d_Model_placeOf_23 : decode b_Model_placeOf 23 = .ok (.iload_n 1, 1) := by decide +kernel
theorem d_Model_placeOf_24 : decode b_Model_placeOf 24 = .ok (.iaload, 1) := by decide +kernel
theorem d_Model_placeOf_25 : decode b_Model_placeOf 25 = .ok (.if_icmp .lt 15, 3) := by decide +kernel
theorem d_Model_placeOf_28 : decode b_Model_placeOf 28 = .ok (.aload_n 0, 1) := by decide +kernel
theorem d_Model_placeOf_29 : decode b_Model_placeOf 29 = .ok (.dup, 1) := by decide +kernel
theorem d_Model_placeOf_30 : decode b_Model_placeOf 30 = .ok (.getfield 820, 3) := by decide +kernel
theorem d_Model_placeOf_33 : decode b_Model_placeOf 33 = .ok (.iconst 1, 1) := by decide +kernel
theorem d_Model_placeOf_34 : decode b_Model_placeOf 34 = .ok (.iadd, 1) := by decide +kernel
theorem d_Model_placeOf_35 : decode b_Model_placeOf 35 = .ok (.putfield 820, 3) := by decide +kernel
theorem d_Model_placeOf_38 : decode b_Model_placeOf 38 = .ok (.iconst (-1), 1) := by decide +kernel
theorem d_Model_placeOf_39 : decode b_Model_placeOf 39 = .ok (.ireturn, 1) := by decide +kernel
theorem d_Model_placeOf_40 : decode b_Model_placeOf 40 = .ok (.aload_n 0, 1) := by decide +kernel
theorem d_Model_placeOf_41 : decode b_Model_placeOf 41 = .ok (.getfield 276, 3) := by decide +kernel
theorem d_Model_placeOf_44 : decode b_Model_placeOf 44 = .ok (.iload_n 1, 1) := by decide +kernel
theorem d_Model_placeOf_45 : decode b_Model_placeOf 45 = .ok (.iaload, 1) := by decide +kernel
theorem d_Model_placeOf_46 : decode b_Model_placeOf 46 = .ok (.istore 4, 2) := by decide +kernel
theorem d_Model_placeOf_48 : decode b_Model_placeOf 48 = .ok (.iconst 0, 1) := by decide +kernel
theorem d_Model_placeOf_49 : decode b_Model_placeOf 49 = .ok (.istore 5, 2) := by decide +kernel
theorem d_Model_placeOf_51 : decode b_Model_placeOf 51 = .ok (.iload 5, 2) := by decide +kernel
theorem d_Model_placeOf_53 : decode b_Model_placeOf 53 = .ok (.iload_n 3, 1) := by decide +kernel
theorem d_Model_placeOf_54 : decode b_Model_placeOf 54 = .ok (.if_icmp .ge 18, 3) := by decide +kernel
theorem d_Model_placeOf_57 : decode b_Model_placeOf 57 = .ok (.aload_n 0, 1) := by decide +kernel
theorem d_Model_placeOf_58 : decode b_Model_placeOf 58 = .ok (.getfield 304, 3) := by decide +kernel
theorem d_Model_placeOf_61 : decode b_Model_placeOf 61 = .ok (.iload 4, 2) := by decide +kernel
theorem d_Model_placeOf_63 : decode b_Model_placeOf 63 = .ok (.iaload, 1) := by decide +kernel
theorem d_Model_placeOf_64 : decode b_Model_placeOf 64 = .ok (.istore 4, 2) := by decide +kernel
theorem d_Model_placeOf_66 : decode b_Model_placeOf 66 = .ok (.iinc 5 1, 3) := by decide +kernel
theorem d_Model_placeOf_69 : decode b_Model_placeOf 69 = .ok (.goto (-18), 3) := by decide +kernel
theorem d_Model_placeOf_72 : decode b_Model_placeOf 72 = .ok (.iload 4, 2) := by decide +kernel
theorem d_Model_placeOf_74 : decode b_Model_placeOf 74 = .ok (.ireturn, 1) := by decide +kernel
abbrev b_Model_pushPlace : ByteArray := prog_14_method_115_code
abbrev y_Model_pushPlace : MethodName := ⟨R_Model, "pushPlace", "(III)V"⟩
theorem co_Model_pushPlace : Cond.code y_Model_pushPlace b_Model_pushPlace 5 none ∈ lw_good := lg_in (tin_12 _ (List.mem_of_getElem? (i := 182) rfl)) rfl
abbrev w_Model_pushPlace : List Cond := Cond.code y_Model_pushPlace b_Model_pushPlace 5 none :: lw_good
theorem im_Model_pushPlace : Cond.instanceMethod y_Model_pushPlace ∈ lw_good := lg_right (i := 2821) (by decide +kernel) rfl
theorem se_Model_pushPlace : Cond.selects R_Model y_Model_pushPlace y_Model_pushPlace ∈ lw_good := lg_left (i := 229) (by decide +kernel) rfl
theorem d_Model_pushPlace_0 : decode b_Model_pushPlace 0 = .ok (.aload_n 0, 1) := by decide +kernel
theorem d_Model_pushPlace_1 : decode b_Model_pushPlace 1 = .ok (.iload_n 1, 1) := by decide +kernel
theorem d_Model_pushPlace_2 : decode b_Model_pushPlace 2 = .ok (.iload_n 2, 1) := by decide +kernel
theorem d_Model_pushPlace_3 : decode b_Model_pushPlace 3 = .ok (.iload_n 3, 1) := by decide +kernel
theorem d_Model_pushPlace_4 : decode b_Model_pushPlace 4 = .ok (.invokevirtual 853, 3) := by decide +kernel
theorem ml_Model_853 : Cond.methodLink R_Model 853 ⟨"PointerHouseModel", "placeOf", "(III)I"⟩ ∈ lw_good := lg_right (i := 2807) (by decide +kernel) rfl
theorem d_Model_pushPlace_7 : decode b_Model_pushPlace 7 = .ok (.istore 4, 2) := by decide +kernel
theorem d_Model_pushPlace_9 : decode b_Model_pushPlace 9 = .ok (.iload 4, 2) := by decide +kernel
theorem d_Model_pushPlace_11 : decode b_Model_pushPlace 11 = .ok (.ifCond .lt 23, 3) := by decide +kernel
theorem d_Model_pushPlace_14 : decode b_Model_pushPlace 14 = .ok (.aload_n 0, 1) := by decide +kernel
theorem d_Model_pushPlace_15 : decode b_Model_pushPlace 15 = .ok (.getfield 300, 3) := by decide +kernel
theorem d_Model_pushPlace_18 : decode b_Model_pushPlace 18 = .ok (.iload 4, 2) := by decide +kernel
theorem d_Model_pushPlace_20 : decode b_Model_pushPlace 20 = .ok (.baload, 1) := by decide +kernel
theorem d_Model_pushPlace_21 : decode b_Model_pushPlace 21 = .ok (.ifCond .ne 13, 3) := by decide +kernel
theorem d_Model_pushPlace_24 : decode b_Model_pushPlace 24 = .ok (.aload_n 0, 1) := by decide +kernel
theorem d_Model_pushPlace_25 : decode b_Model_pushPlace 25 = .ok (.dup, 1) := by decide +kernel
theorem d_Model_pushPlace_26 : decode b_Model_pushPlace 26 = .ok (.getfield 820, 3) := by decide +kernel
theorem d_Model_pushPlace_29 : decode b_Model_pushPlace 29 = .ok (.iconst 1, 1) := by decide +kernel
theorem d_Model_pushPlace_30 : decode b_Model_pushPlace 30 = .ok (.iadd, 1) := by decide +kernel
theorem d_Model_pushPlace_31 : decode b_Model_pushPlace 31 = .ok (.putfield 820, 3) := by decide +kernel
theorem d_Model_pushPlace_34 : decode b_Model_pushPlace 34 = .ok (.aload_n 0, 1) := by decide +kernel
theorem d_Model_pushPlace_35 : decode b_Model_pushPlace 35 = .ok (.iload 4, 2) := by decide +kernel
theorem d_Model_pushPlace_37 : decode b_Model_pushPlace 37 = .ok (.ifCond .ge 7, 3) := by decide +kernel
theorem d_Model_pushPlace_40 : decode b_Model_pushPlace 40 = .ok (.iconst 0, 1) := by decide +kernel
theorem d_Model_pushPlace_41 : decode b_Model_pushPlace 41 = .ok (.goto 10, 3) := by decide +kernel
theorem d_Model_pushPlace_44 : decode b_Model_pushPlace 44 = .ok (.aload_n 0, 1) := by decide +kernel
theorem d_Model_pushPlace_45 : decode b_Model_pushPlace 45 = .ok (.getfield 288, 3) := by decide +kernel
theorem fl_Model_288 : Cond.fieldLink R_Model 288 "PointerHouseModel" "px" "[I" ∈ lw_good := lg_right (i := 1963) (by decide +kernel) rfl
theorem d_Model_pushPlace_48 : decode b_Model_pushPlace 48 = .ok (.iload 4, 2) := by decide +kernel
theorem d_Model_pushPlace_50 : decode b_Model_pushPlace 50 = .ok (.iaload, 1) := by decide +kernel
theorem d_Model_pushPlace_51 : decode b_Model_pushPlace 51 = .ok (.iload 4, 2) := by decide +kernel
theorem d_Model_pushPlace_53 : decode b_Model_pushPlace 53 = .ok (.ifCond .ge 7, 3) := by decide +kernel
theorem d_Model_pushPlace_56 : decode b_Model_pushPlace 56 = .ok (.iconst (-1), 1) := by decide +kernel
theorem d_Model_pushPlace_57 : decode b_Model_pushPlace 57 = .ok (.goto 10, 3) := by decide +kernel
theorem d_Model_pushPlace_60 : decode b_Model_pushPlace 60 = .ok (.aload_n 0, 1) := by decide +kernel
theorem d_Model_pushPlace_61 : decode b_Model_pushPlace 61 = .ok (.getfield 291, 3) := by decide +kernel
theorem fl_Model_291 : Cond.fieldLink R_Model 291 "PointerHouseModel" "py" "[I" ∈ lw_good := lg_right (i := 1964) (by decide +kernel) rfl
theorem d_Model_pushPlace_64 : decode b_Model_pushPlace 64 = .ok (.iload 4, 2) := by decide +kernel
theorem d_Model_pushPlace_66 : decode b_Model_pushPlace 66 = .ok (.iaload, 1) := by decide +kernel
theorem d_Model_pushPlace_67 : decode b_Model_pushPlace 67 = .ok (.iload 4, 2) := by decide +kernel
theorem d_Model_pushPlace_69 : decode b_Model_pushPlace 69 = .ok (.ifCond .ge 7, 3) := by decide +kernel
theorem d_Model_pushPlace_72 : decode b_Model_pushPlace 72 = .ok (.iconst 0, 1) := by decide +kernel
theorem d_Model_pushPlace_73 : decode b_Model_pushPlace 73 = .ok (.goto 10, 3) := by decide +kernel
theorem d_Model_pushPlace_76 : decode b_Model_pushPlace 76 = .ok (.aload_n 0, 1) := by decide +kernel
theorem d_Model_pushPlace_77 : decode b_Model_pushPlace 77 = .ok (.getfield 294, 3) := by decide +kernel
theorem fl_Model_294 : Cond.fieldLink R_Model 294 "PointerHouseModel" "pz" "[I" ∈ lw_good := lg_right (i := 1965) (by decide +kernel) rfl
theorem d_Model_pushPlace_80 : decode b_Model_pushPlace 80 = .ok (.iload 4, 2) := by decide +kernel
theorem d_Model_pushPlace_82 : decode b_Model_pushPlace 82 = .ok (.iaload, 1) := by decide +kernel
theorem d_Model_pushPlace_83 : decode b_Model_pushPlace 83 = .ok (.invokevirtual 857, 3) := by decide +kernel
theorem ml_Model_857 : Cond.methodLink R_Model 857 ⟨"PointerHouseModel", "push", "(III)V"⟩ ∈ lw_good := lg_right (i := 2759) (by decide +kernel) rfl
theorem d_Model_pushPlace_86 : decode b_Model_pushPlace 86 = .ok (.aload_n 0, 1) := by decide +kernel
theorem d_Model_pushPlace_87 : decode b_Model_pushPlace 87 = .ok (.getfield 216, 3) := by decide +kernel
theorem d_Model_pushPlace_90 : decode b_Model_pushPlace 90 = .ok (.aload_n 0, 1) := by decide +kernel
theorem d_Model_pushPlace_91 : decode b_Model_pushPlace 91 = .ok (.getfield 799, 3) := by decide +kernel
theorem d_Model_pushPlace_94 : decode b_Model_pushPlace 94 = .ok (.iconst 1, 1) := by decide +kernel
theorem d_Model_pushPlace_95 : decode b_Model_pushPlace 95 = .ok (.isub, 1) := by decide +kernel
theorem d_Model_pushPlace_96 : decode b_Model_pushPlace 96 = .ok (.iload 4, 2) := by decide +kernel
theorem d_Model_pushPlace_98 : decode b_Model_pushPlace 98 = .ok (.ifCond .ge 7, 3) := by decide +kernel
theorem d_Model_pushPlace_101 : decode b_Model_pushPlace 101 = .ok (.iconst 0, 1) := by decide +kernel
theorem d_Model_pushPlace_102 : decode b_Model_pushPlace 102 = .ok (.goto 10, 3) := by decide +kernel
theorem d_Model_pushPlace_105 : decode b_Model_pushPlace 105 = .ok (.aload_n 0, 1) := by decide +kernel
theorem d_Model_pushPlace_106 : decode b_Model_pushPlace 106 = .ok (.getfield 297, 3) := by decide +kernel
theorem fl_Model_297 : Cond.fieldLink R_Model 297 "PointerHouseModel" "pRowed" "[I" ∈ lw_good := lg_right (i := 1966) (by decide +kernel) rfl
theorem d_Model_pushPlace_109 : decode b_Model_pushPlace 109 = .ok (.iload 4, 2) := by decide +kernel
theorem d_Model_pushPlace_111 : decode b_Model_pushPlace 111 = .ok (.iaload, 1) := by decide +kernel
theorem d_Model_pushPlace_112 : decode b_Model_pushPlace 112 = .ok (.iastore, 1) := by decide +kernel
theorem d_Model_pushPlace_113 : decode b_Model_pushPlace 113 = .ok (.return_, 1) := by decide +kernel
abbrev b_Model_put : ByteArray := prog_14_method_116_code
abbrev y_Model_put : MethodName := ⟨R_Model, "put", "(IIII)V"⟩
theorem co_Model_put : Cond.code y_Model_put b_Model_put 6 none ∈ lw_good := lg_in (tin_12 _ (List.mem_of_getElem? (i := 166) rfl)) rfl
abbrev w_Model_put : List Cond := Cond.code y_Model_put b_Model_put 6 none :: lw_good
theorem im_Model_put : Cond.instanceMethod y_Model_put ∈ lw_good := lg_right (i := 2805) (by decide +kernel) rfl
theorem se_Model_put : Cond.selects R_Model y_Model_put y_Model_put ∈ lw_good := lg_left (i := 225) (by decide +kernel) rfl
theorem d_Model_put_0 : decode b_Model_put 0 = .ok (.aload_n 0, 1) := by decide +kernel
theorem d_Model_put_1 : decode b_Model_put 1 = .ok (.iload_n 1, 1) := by decide +kernel
theorem d_Model_put_2 : decode b_Model_put 2 = .ok (.iload_n 2, 1) := by decide +kernel
theorem d_Model_put_3 : decode b_Model_put 3 = .ok (.iload_n 3, 1) := by decide +kernel
theorem d_Model_put_4 : decode b_Model_put 4 = .ok (.invokevirtual 853, 3) := by decide +kernel
theorem d_Model_put_7 : decode b_Model_put 7 = .ok (.istore 5, 2) := by decide +kernel
theorem d_Model_put_9 : decode b_Model_put 9 = .ok (.iload 5, 2) := by decide +kernel
theorem d_Model_put_11 : decode b_Model_put 11 = .ok (.ifCond .ge 4, 3) := by decide +kernel
theorem d_Model_put_14 : decode b_Model_put 14 = .ok (.return_, 1) := by decide +kernel
theorem d_Model_put_15 : decode b_Model_put 15 = .ok (.aload_n 0, 1) := by decide +kernel
theorem d_Model_put_16 : decode b_Model_put 16 = .ok (.getfield 288, 3) := by decide +kernel
theorem d_Model_put_19 : decode b_Model_put 19 = .ok (.iload 5, 2) := by decide +kernel
theorem d_Model_put_21 : decode b_Model_put 21 = .ok (.aload_n 0, 1) := by decide +kernel
theorem d_Model_put_22 : decode b_Model_put 22 = .ok (.getfield 207, 3) := by decide +kernel
theorem d_Model_put_25 : decode b_Model_put 25 = .ok (.iload 4, 2) := by decide +kernel
theorem d_Model_put_27 : decode b_Model_put 27 = .ok (.iaload, 1) := by decide +kernel
theorem d_Model_put_28 : decode b_Model_put 28 = .ok (.iastore, 1) := by decide +kernel
theorem d_Model_put_29 : decode b_Model_put 29 = .ok (.aload_n 0, 1) := by decide +kernel
theorem d_Model_put_30 : decode b_Model_put 30 = .ok (.getfield 291, 3) := by decide +kernel
theorem d_Model_put_33 : decode b_Model_put 33 = .ok (.iload 5, 2) := by decide +kernel
theorem d_Model_put_35 : decode b_Model_put 35 = .ok (.aload_n 0, 1) := by decide +kernel
theorem d_Model_put_36 : decode b_Model_put 36 = .ok (.getfield 210, 3) := by decide +kernel
theorem d_Model_put_39 : decode b_Model_put 39 = .ok (.iload 4, 2) := by decide +kernel
theorem d_Model_put_41 : decode b_Model_put 41 = .ok (.iaload, 1) := by decide +kernel
theorem d_Model_put_42 : decode b_Model_put 42 = .ok (.iastore, 1) := by decide +kernel
theorem d_Model_put_43 : decode b_Model_put 43 = .ok (.aload_n 0, 1) := by decide +kernel
theorem d_Model_put_44 : decode b_Model_put 44 = .ok (.getfield 294, 3) := by decide +kernel
theorem d_Model_put_47 : decode b_Model_put 47 = .ok (.iload 5, 2) := by decide +kernel
theorem d_Model_put_49 : decode b_Model_put 49 = .ok (.aload_n 0, 1) := by decide +kernel
theorem d_Model_put_50 : decode b_Model_put 50 = .ok (.getfield 213, 3) := by decide +kernel
theorem d_Model_put_53 : decode b_Model_put 53 = .ok (.iload 4, 2) := by decide +kernel
theorem d_Model_put_55 : decode b_Model_put 55 = .ok (.iaload, 1) := by decide +kernel
theorem d_Model_put_56 : decode b_Model_put 56 = .ok (.iastore, 1) := by decide +kernel
theorem d_Model_put_57 : decode b_Model_put 57 = .ok (.aload_n 0, 1) := by decide +kernel
theorem d_Model_put_58 : decode b_Model_put 58 = .ok (.getfield 297, 3) := by decide +kernel
theorem d_Model_put_61 : decode b_Model_put 61 = .ok (.iload 5, 2) := by decide +kernel
theorem d_Model_put_63 : decode b_Model_put 63 = .ok (.aload_n 0, 1) := by decide +kernel
theorem d_Model_put_64 : decode b_Model_put 64 = .ok (.getfield 216, 3) := by decide +kernel
theorem d_Model_put_67 : decode b_Model_put 67 = .ok (.iload 4, 2) := by decide +kernel
theorem d_Model_put_69 : decode b_Model_put 69 = .ok (.iaload, 1) := by decide +kernel
theorem d_Model_put_70 : decode b_Model_put 70 = .ok (.iastore, 1) := by decide +kernel
theorem d_Model_put_71 : decode b_Model_put 71 = .ok (.aload_n 0, 1) := by decide +kernel
theorem d_Model_put_72 : decode b_Model_put 72 = .ok (.getfield 300, 3) := by decide +kernel
theorem d_Model_put_75 : decode b_Model_put 75 = .ok (.iload 5, 2) := by decide +kernel
theorem d_Model_put_77 : decode b_Model_put 77 = .ok (.iconst 1, 1) := by decide +kernel
theorem d_Model_put_78 : decode b_Model_put 78 = .ok (.bastore, 1) := by decide +kernel
theorem d_Model_put_79 : decode b_Model_put 79 = .ok (.return_, 1) := by decide +kernel
abbrev b_Model_var : ByteArray := prog_14_method_118_code
abbrev y_Model_var : MethodName := ⟨R_Model, "var", "(I)I"⟩
theorem co_Model_var : Cond.code y_Model_var b_Model_var 2 (some .int) ∈ lw_good := lg_in (tin_12 _ (List.mem_of_getElem? (i := 130) rfl)) rfl
abbrev w_Model_var : List Cond := Cond.code y_Model_var b_Model_var 2 (some .int) :: lw_good
theorem im_Model_var : Cond.instanceMethod y_Model_var ∈ lw_good := lg_right (i := 2769) (by decide +kernel) rfl
theorem se_Model_var : Cond.selects R_Model y_Model_var y_Model_var ∈ lw_good := lg_left (i := 216) (by decide +kernel) rfl
theorem d_Model_var_0 : decode b_Model_var 0 = .ok (.bipush 20, 2) := by decide +kernel
theorem d_Model_var_2 : decode b_Model_var 2 = .ok (.aload_n 0, 1) := by decide +kernel
theorem d_Model_var_3 : decode b_Model_var 3 = .ok (.getfield 808, 3) := by decide +kernel
theorem d_Model_var_6 : decode b_Model_var 6 = .ok (.iconst 1, 1) := by decide +kernel
theorem d_Model_var_7 : decode b_Model_var 7 = .ok (.isub, 1) := by decide +kernel
theorem d_Model_var_8 : decode b_Model_var 8 = .ok (.imul, 1) := by decide +kernel
theorem d_Model_var_9 : decode b_Model_var 9 = .ok (.iload_n 1, 1) := by decide +kernel
theorem d_Model_var_10 : decode b_Model_var 10 = .ok (.iadd, 1) := by decide +kernel
theorem d_Model_var_11 : decode b_Model_var 11 = .ok (.ireturn, 1) := by decide +kernel
abbrev b_Model_regionIndex : ByteArray := prog_14_method_119_code
abbrev y_Model_regionIndex : MethodName := ⟨R_Model, "regionIndex", "(I)I"⟩
theorem co_Model_regionIndex : Cond.code y_Model_regionIndex b_Model_regionIndex 2 (some .int) ∈ lw_good := lg_in (tin_12 _ (List.mem_of_getElem? (i := 138) rfl)) rfl
abbrev w_Model_regionIndex : List Cond := Cond.code y_Model_regionIndex b_Model_regionIndex 2 (some .int) :: lw_good
theorem im_Model_regionIndex : Cond.instanceMethod y_Model_regionIndex ∈ lw_good := lg_right (i := 2777) (by decide +kernel) rfl
theorem se_Model_regionIndex : Cond.selects R_Model y_Model_regionIndex y_Model_regionIndex ∈ lw_good := lg_left (i := 218) (by decide +kernel) rfl
theorem d_Model_regionIndex_0 : decode b_Model_regionIndex 0 = .ok (.iload_n 1, 1) := by decide +kernel
theorem d_Model_regionIndex_1 : decode b_Model_regionIndex 1 = .ok (.ifCond .ne 7, 3) := by decide +kernel
theorem d_Model_regionIndex_4 : decode b_Model_regionIndex 4 = .ok (.iconst 0, 1) := by decide +kernel
theorem d_Model_regionIndex_5 : decode b_Model_regionIndex 5 = .ok (.goto 19, 3) := by decide +kernel
theorem d_Model_regionIndex_8 : decode b_Model_regionIndex 8 = .ok (.aload_n 0, 1) := by decide +kernel
theorem d_Model_regionIndex_9 : decode b_Model_regionIndex 9 = .ok (.getfield 240, 3) := by decide +kernel
theorem fl_Model_240 : Cond.fieldLink R_Model 240 "PointerHouseModel" "regionNow" "[I" ∈ lw_good := lg_right (i := 1940) (by decide +kernel) rfl
theorem d_Model_regionIndex_12 : decode b_Model_regionIndex 12 = .ok (.bipush 12, 2) := by decide +kernel
theorem d_Model_regionIndex_14 : decode b_Model_regionIndex 14 = .ok (.aload_n 0, 1) := by decide +kernel
theorem d_Model_regionIndex_15 : decode b_Model_regionIndex 15 = .ok (.getfield 808, 3) := by decide +kernel
theorem d_Model_regionIndex_18 : decode b_Model_regionIndex 18 = .ok (.iconst 1, 1) := by decide +kernel
theorem d_Model_regionIndex_19 : decode b_Model_regionIndex 19 = .ok (.isub, 1) := by decide +kernel
theorem d_Model_regionIndex_20 : decode b_Model_regionIndex 20 = .ok (.imul, 1) := by decide +kernel
theorem d_Model_regionIndex_21 : decode b_Model_regionIndex 21 = .ok (.iload_n 1, 1) := by decide +kernel
theorem d_Model_regionIndex_22 : decode b_Model_regionIndex 22 = .ok (.iadd, 1) := by decide +kernel
theorem d_Model_regionIndex_23 : decode b_Model_regionIndex 23 = .ok (.iaload, 1) := by decide +kernel
theorem d_Model_regionIndex_24 : decode b_Model_regionIndex 24 = .ok (.ireturn, 1) := by decide +kernel
abbrev b_Model_goOn : ByteArray := prog_14_method_120_code
abbrev y_Model_goOn : MethodName := ⟨R_Model, "goOn", "()V"⟩
theorem co_Model_goOn : Cond.code y_Model_goOn b_Model_goOn 2 none ∈ lw_good := lg_in (tin_12 _ (List.mem_of_getElem? (i := 114) rfl)) rfl
abbrev w_Model_goOn : List Cond := Cond.code y_Model_goOn b_Model_goOn 2 none :: lw_good
theorem im_Model_goOn : Cond.instanceMethod y_Model_goOn ∈ lw_good := lg_right (i := 2753) (by decide +kernel) rfl
theorem se_Model_goOn : Cond.selects R_Model y_Model_goOn y_Model_goOn ∈ lw_good := lg_left (i := 212) (by decide +kernel) rfl
theorem d_Model_goOn_0 : decode b_Model_goOn 0 = .ok (.aload_n 0, 1) := by decide +kernel
theorem d_Model_goOn_1 : decode b_Model_goOn 1 = .ok (.getfield 802, 3) := by decide +kernel
theorem d_Model_goOn_4 : decode b_Model_goOn 4 = .ok (.iconst 1, 1) := by decide +kernel
theorem d_Model_goOn_5 : decode b_Model_goOn 5 = .ok (.if_icmp .ne 61, 3) := by decide +kernel
theorem d_Model_goOn_8 : decode b_Model_goOn 8 = .ok (.aload_n 0, 1) := by decide +kernel
theorem d_Model_goOn_9 : decode b_Model_goOn 9 = .ok (.getfield 195, 3) := by decide +kernel
theorem d_Model_goOn_12 : decode b_Model_goOn 12 = .ok (.aload_n 0, 1) := by decide +kernel
theorem d_Model_goOn_13 : decode b_Model_goOn 13 = .ok (.getfield 863, 3) := by decide +kernel
theorem d_Model_goOn_16 : decode b_Model_goOn 16 = .ok (.iaload, 1) := by decide +kernel
theorem d_Model_goOn_17 : decode b_Model_goOn 17 = .ok (.ifCond .eq 49, 3) := by decide +kernel
theorem d_Model_goOn_20 : decode b_Model_goOn 20 = .ok (.aload_n 0, 1) := by decide +kernel
theorem d_Model_goOn_21 : decode b_Model_goOn 21 = .ok (.getfield 863, 3) := by decide +kernel
theorem d_Model_goOn_24 : decode b_Model_goOn 24 = .ok (.istore_n 1, 1) := by decide +kernel
theorem d_Model_goOn_25 : decode b_Model_goOn 25 = .ok (.aload_n 0, 1) := by decide +kernel
theorem d_Model_goOn_26 : decode b_Model_goOn 26 = .ok (.dup, 1) := by decide +kernel
theorem d_Model_goOn_27 : decode b_Model_goOn 27 = .ok (.getfield 863, 3) := by decide +kernel
theorem d_Model_goOn_30 : decode b_Model_goOn 30 = .ok (.iconst 1, 1) := by decide +kernel
theorem d_Model_goOn_31 : decode b_Model_goOn 31 = .ok (.iadd, 1) := by decide +kernel
theorem d_Model_goOn_32 : decode b_Model_goOn 32 = .ok (.putfield 863, 3) := by decide +kernel
theorem d_Model_goOn_35 : decode b_Model_goOn 35 = .ok (.aload_n 0, 1) := by decide +kernel
theorem d_Model_goOn_36 : decode b_Model_goOn 36 = .ok (.aload_n 0, 1) := by decide +kernel
theorem d_Model_goOn_37 : decode b_Model_goOn 37 = .ok (.getfield 195, 3) := by decide +kernel
theorem d_Model_goOn_40 : decode b_Model_goOn 40 = .ok (.iload_n 1, 1) := by decide +kernel
theorem d_Model_goOn_41 : decode b_Model_goOn 41 = .ok (.iaload, 1) := by decide +kernel
theorem d_Model_goOn_42 : decode b_Model_goOn 42 = .ok (.aload_n 0, 1) := by decide +kernel
theorem d_Model_goOn_43 : decode b_Model_goOn 43 = .ok (.getfield 198, 3) := by decide +kernel
theorem d_Model_goOn_46 : decode b_Model_goOn 46 = .ok (.iload_n 1, 1) := by decide +kernel
theorem d_Model_goOn_47 : decode b_Model_goOn 47 = .ok (.iaload, 1) := by decide +kernel
theorem d_Model_goOn_48 : decode b_Model_goOn 48 = .ok (.aload_n 0, 1) := by decide +kernel
theorem d_Model_goOn_49 : decode b_Model_goOn 49 = .ok (.getfield 201, 3) := by decide +kernel
theorem d_Model_goOn_52 : decode b_Model_goOn 52 = .ok (.iload_n 1, 1) := by decide +kernel
theorem d_Model_goOn_53 : decode b_Model_goOn 53 = .ok (.iaload, 1) := by decide +kernel
theorem d_Model_goOn_54 : decode b_Model_goOn 54 = .ok (.aload_n 0, 1) := by decide +kernel
theorem d_Model_goOn_55 : decode b_Model_goOn 55 = .ok (.getfield 204, 3) := by decide +kernel
theorem d_Model_goOn_58 : decode b_Model_goOn 58 = .ok (.iload_n 1, 1) := by decide +kernel
theorem d_Model_goOn_59 : decode b_Model_goOn 59 = .ok (.iaload, 1) := by decide +kernel
theorem d_Model_goOn_60 : decode b_Model_goOn 60 = .ok (.invokevirtual 866, 3) := by decide +kernel
theorem ml_Model_866 : Cond.methodLink R_Model 866 ⟨"PointerHouseModel", "run", "(IIII)V"⟩ ∈ lw_good := lg_right (i := 2755) (by decide +kernel) rfl
theorem d_Model_goOn_63 : decode b_Model_goOn 63 = .ok (.goto (-63), 3) := by decide +kernel
theorem d_Model_goOn_66 : decode b_Model_goOn 66 = .ok (.return_, 1) := by decide +kernel
abbrev b_Model_run_IIII : ByteArray := prog_14_method_121_code
abbrev y_Model_run_IIII : MethodName := ⟨R_Model, "run", "(IIII)V"⟩
theorem co_Model_run_IIII : Cond.code y_Model_run_IIII b_Model_run_IIII 6 none ∈ lw_good := lg_in (tin_12 _ (List.mem_of_getElem? (i := 118) rfl)) rfl
abbrev w_Model_run_IIII : List Cond := Cond.code y_Model_run_IIII b_Model_run_IIII 6 none :: lw_good
theorem im_Model_run_IIII : Cond.instanceMethod y_Model_run_IIII ∈ lw_good := lg_right (i := 2757) (by decide +kernel) rfl
theorem se_Model_run_IIII : Cond.selects R_Model y_Model_run_IIII y_Model_run_IIII ∈ lw_good := lg_left (i := 213) (by decide +kernel) rfl
theorem d_Model_run_IIII_0 : decode b_Model_run_IIII 0 = .ok (.iload_n 1, 1) := by decide +kernel
theorem d_Model_run_IIII_1 : decode b_Model_run_IIII 1 = .ok (.tableswitch 691 1 36 #[159, 167, 175, 186, 209, 691, 691, 691, 691, 691, 691, 691, 691, 674, 674, 674, 674, 347, 684, 684, 684, 265, 691, 691, 691, 365, 359, 354, 413, 462, 497, 536, 536, 593, 663, 486], 159) := by decide +kernel
theorem d_Model_run_IIII_160 : decode b_Model_run_IIII 160 = .ok (.aload_n 0, 1) := by decide +kernel
theorem d_Model_run_IIII_161 : decode b_Model_run_IIII 161 = .ok (.iload_n 2, 1) := by decide +kernel
theorem d_Model_run_IIII_162 : decode b_Model_run_IIII 162 = .ok (.iconst (-1), 1) := by decide +kernel
theorem d_Model_run_IIII_163 : decode b_Model_run_IIII 163 = .ok (.iconst 0, 1) := by decide +kernel
theorem d_Model_run_IIII_164 : decode b_Model_run_IIII 164 = .ok (.invokevirtual 857, 3) := by decide +kernel
theorem d_Model_run_IIII_167 : decode b_Model_run_IIII 167 = .ok (.return_, 1) := by decide +kernel
theorem d_Model_run_IIII_168 : decode b_Model_run_IIII 168 = .ok (.aload_n 0, 1) := by decide +kernel
theorem d_Model_run_IIII_169 : decode b_Model_run_IIII 169 = .ok (.iconst 0, 1) := by decide +kernel
theorem d_Model_run_IIII_170 : decode b_Model_run_IIII 170 = .ok (.iconst (-1), 1) := by decide +kernel
theorem d_Model_run_IIII_171 : decode b_Model_run_IIII 171 = .ok (.iconst 0, 1) := by decide +kernel
theorem d_Model_run_IIII_172 : decode b_Model_run_IIII 172 = .ok (.invokevirtual 857, 3) := by decide +kernel
theorem d_Model_run_IIII_175 : decode b_Model_run_IIII 175 = .ok (.return_, 1) := by decide +kernel
theorem d_Model_run_IIII_176 : decode b_Model_run_IIII 176 = .ok (.aload_n 0, 1) := by decide +kernel
theorem d_Model_run_IIII_177 : decode b_Model_run_IIII 177 = .ok (.aload_n 0, 1) := by decide +kernel
theorem d_Model_run_IIII_178 : decode b_Model_run_IIII 178 = .ok (.invokevirtual 870, 3) := by decide +kernel
theorem ml_Model_870 : Cond.methodLink R_Model 870 ⟨"PointerHouseModel", "input", "()I"⟩ ∈ lw_good := lg_right (i := 2763) (by decide +kernel) rfl
theorem d_Model_run_IIII_181 : decode b_Model_run_IIII 181 = .ok (.iconst (-1), 1) := by decide +kernel
theorem d_Model_run_IIII_182 : decode b_Model_run_IIII 182 = .ok (.iconst 0, 1) := by decide +kernel
theorem d_Model_run_IIII_183 : decode b_Model_run_IIII 183 = .ok (.invokevirtual 857, 3) := by decide +kernel
theorem d_Model_run_IIII_186 : decode b_Model_run_IIII 186 = .ok (.return_, 1) := by decide +kernel
theorem d_Model_run_IIII_187 : decode b_Model_run_IIII 187 = .ok (.aload_n 0, 1) := by decide +kernel
theorem d_Model_run_IIII_188 : decode b_Model_run_IIII 188 = .ok (.aload_n 0, 1) := by decide +kernel
theorem d_Model_run_IIII_189 : decode b_Model_run_IIII 189 = .ok (.getfield 243, 3) := by decide +kernel
theorem d_Model_run_IIII_192 : decode b_Model_run_IIII 192 = .ok (.bipush 40, 2) := by decide +kernel
theorem d_Model_run_IIII_194 : decode b_Model_run_IIII 194 = .ok (.aload_n 0, 1) := by decide +kernel
theorem d_Model_run_IIII_195 : decode b_Model_run_IIII 195 = .ok (.getfield 808, 3) := by decide +kernel
theorem d_Model_run_IIII_198 : decode b_Model_run_IIII 198 = .ok (.iconst 1, 1) := by decide +kernel
theorem d_Model_run_IIII_199 : decode b_Model_run_IIII 199 = .ok (.isub, 1) := by decide +kernel
theorem d_Model_run_IIII_200 : decode b_Model_run_IIII 200 = .ok (.imul, 1) := by decide +kernel
theorem d_Model_run_IIII_201 : decode b_Model_run_IIII 201 = .ok (.iload_n 2, 1) := by decide +kernel
theorem d_Model_run_IIII_202 : decode b_Model_run_IIII 202 = .ok (.iadd, 1) := by decide +kernel
theorem d_Model_run_IIII_203 : decode b_Model_run_IIII 203 = .ok (.iaload, 1) := by decide +kernel
theorem d_Model_run_IIII_204 : decode b_Model_run_IIII 204 = .ok (.iconst (-1), 1) := by decide +kernel
theorem d_Model_run_IIII_205 : decode b_Model_run_IIII 205 = .ok (.iconst 0, 1) := by decide +kernel
theorem d_Model_run_IIII_206 : decode b_Model_run_IIII 206 = .ok (.invokevirtual 857, 3) := by decide +kernel
theorem d_Model_run_IIII_209 : decode b_Model_run_IIII 209 = .ok (.return_, 1) := by decide +kernel
theorem d_Model_run_IIII_210 : decode b_Model_run_IIII 210 = .ok (.aload_n 0, 1) := by decide +kernel
theorem d_Model_run_IIII_211 : decode b_Model_run_IIII 211 = .ok (.aload_n 0, 1) := by decide +kernel
theorem d_Model_run_IIII_212 : decode b_Model_run_IIII 212 = .ok (.getfield 228, 3) := by decide +kernel
theorem fl_Model_228 : Cond.fieldLink R_Model 228 "PointerHouseModel" "vx" "[I" ∈ lw_good := lg_right (i := 1936) (by decide +kernel) rfl
theorem d_Model_run_IIII_215 : decode b_Model_run_IIII 215 = .ok (.aload_n 0, 1) := by decide +kernel
theorem d_Model_run_IIII_216 : decode b_Model_run_IIII 216 = .ok (.iload_n 2, 1) := by decide +kernel
theorem d_Model_run_IIII_217 : decode b_Model_run_IIII 217 = .ok (.invokevirtual 873, 3) := by decide +kernel
theorem ml_Model_873 : Cond.methodLink R_Model 873 ⟨"PointerHouseModel", "var", "(I)I"⟩ ∈ lw_good := lg_right (i := 2767) (by decide +kernel) rfl
theorem d_Model_run_IIII_220 : decode b_Model_run_IIII 220 = .ok (.iaload, 1) := by decide +kernel
theorem d_Model_run_IIII_221 : decode b_Model_run_IIII 221 = .ok (.aload_n 0, 1) := by decide +kernel
theorem d_Model_run_IIII_222 : decode b_Model_run_IIII 222 = .ok (.getfield 231, 3) := by decide +kernel
theorem fl_Model_231 : Cond.fieldLink R_Model 231 "PointerHouseModel" "vy" "[I" ∈ lw_good := lg_right (i := 1937) (by decide +kernel) rfl
theorem d_Model_run_IIII_225 : decode b_Model_run_IIII 225 = .ok (.aload_n 0, 1) := by decide +kernel
theorem d_Model_run_IIII_226 : decode b_Model_run_IIII 226 = .ok (.iload_n 2, 1) := by decide +kernel
theorem d_Model_run_IIII_227 : decode b_Model_run_IIII 227 = .ok (.invokevirtual 873, 3) := by decide +kernel
theorem d_Model_run_IIII_230 : decode b_Model_run_IIII 230 = .ok (.iaload, 1) := by decide +kernel
theorem d_Model_run_IIII_231 : decode b_Model_run_IIII 231 = .ok (.aload_n 0, 1) := by decide +kernel
theorem d_Model_run_IIII_232 : decode b_Model_run_IIII 232 = .ok (.getfield 234, 3) := by decide +kernel
theorem fl_Model_234 : Cond.fieldLink R_Model 234 "PointerHouseModel" "vz" "[I" ∈ lw_good := lg_right (i := 1938) (by decide +kernel) rfl
theorem d_Model_run_IIII_235 : decode b_Model_run_IIII 235 = .ok (.aload_n 0, 1) := by decide +kernel
theorem d_Model_run_IIII_236 : decode b_Model_run_IIII 236 = .ok (.iload_n 2, 1) := by decide +kernel
theorem d_Model_run_IIII_237 : decode b_Model_run_IIII 237 = .ok (.invokevirtual 873, 3) := by decide +kernel
theorem d_Model_run_IIII_240 : decode b_Model_run_IIII 240 = .ok (.iaload, 1) := by decide +kernel
theorem d_Model_run_IIII_241 : decode b_Model_run_IIII 241 = .ok (.invokevirtual 857, 3) := by decide +kernel
theorem d_Model_run_IIII_244 : decode b_Model_run_IIII 244 = .ok (.aload_n 0, 1) := by decide +kernel
theorem d_Model_run_IIII_245 : decode b_Model_run_IIII 245 = .ok (.getfield 216, 3) := by decide +kernel
theorem d_Model_run_IIII_248 : decode b_Model_run_IIII 248 = .ok (.aload_n 0, 1) := by decide +kernel
theorem d_Model_run_IIII_249 : decode b_Model_run_IIII 249 = .ok (.getfield 799, 3) := by decide +kernel
theorem d_Model_run_IIII_252 : decode b_Model_run_IIII 252 = .ok (.iconst 1, 1) := by decide +kernel
theorem d_Model_run_IIII_253 : decode b_Model_run_IIII 253 = .ok (.isub, 1) := by decide +kernel
theorem d_Model_run_IIII_254 : decode b_Model_run_IIII 254 = .ok (.aload_n 0, 1) := by decide +kernel
theorem d_Model_run_IIII_255 : decode b_Model_run_IIII 255 = .ok (.getfield 237, 3) := by decide +kernel
theorem fl_Model_237 : Cond.fieldLink R_Model 237 "PointerHouseModel" "vRowed" "[I" ∈ lw_good := lg_right (i := 1939) (by decide +kernel) rfl
theorem d_Model_run_IIII_258 : decode b_Model_run_IIII 258 = .ok (.aload_n 0, 1) := by decide +kernel
theorem d_Model_run_IIII_259 : decode b_Model_run_IIII 259 = .ok (.iload_n 2, 1) := by decide +kernel
theorem d_Model_run_IIII_260 : decode b_Model_run_IIII 260 = .ok (.invokevirtual 873, 3) := by decide +kernel
theorem d_Model_run_IIII_263 : decode b_Model_run_IIII 263 = .ok (.iaload, 1) := by decide +kernel
theorem d_Model_run_IIII_264 : decode b_Model_run_IIII 264 = .ok (.iastore, 1) := by decide +kernel
theorem d_Model_run_IIII_265 : decode b_Model_run_IIII 265 = .ok (.return_, 1) := by decide +kernel
theorem d_Model_run_IIII_266 : decode b_Model_run_IIII 266 = .ok (.aload_n 0, 1) := by decide +kernel
theorem d_Model_run_IIII_267 : decode b_Model_run_IIII 267 = .ok (.dup, 1) := by decide +kernel
theorem d_Model_run_IIII_268 : decode b_Model_run_IIII 268 = .ok (.getfield 799, 3) := by decide +kernel
theorem d_Model_run_IIII_271 : decode b_Model_run_IIII 271 = .ok (.iconst 1, 1) := by decide +kernel
theorem d_Model_run_IIII_272 : decode b_Model_run_IIII 272 = .ok (.isub, 1) := by decide +kernel
theorem d_Model_run_IIII_273 : decode b_Model_run_IIII 273 = .ok (.putfield 799, 3) := by decide +kernel
theorem d_Model_run_IIII_276 : decode b_Model_run_IIII 276 = .ok (.aload_n 0, 1) := by decide +kernel
theorem d_Model_run_IIII_277 : decode b_Model_run_IIII 277 = .ok (.iload_n 2, 1) := by decide +kernel
theorem d_Model_run_IIII_278 : decode b_Model_run_IIII 278 = .ok (.invokevirtual 873, 3) := by decide +kernel
theorem d_Model_run_IIII_281 : decode b_Model_run_IIII 281 = .ok (.istore 5, 2) := by decide +kernel
theorem d_Model_run_IIII_283 : decode b_Model_run_IIII 283 = .ok (.aload_n 0, 1) := by decide +kernel
theorem d_Model_run_IIII_284 : decode b_Model_run_IIII 284 = .ok (.getfield 228, 3) := by decide +kernel
theorem d_Model_run_IIII_287 : decode b_Model_run_IIII 287 = .ok (.iload 5, 2) := by decide +kernel
theorem d_Model_run_IIII_289 : decode b_Model_run_IIII 289 = .ok (.aload_n 0, 1) := by decide +kernel
theorem d_Model_run_IIII_290 : decode b_Model_run_IIII 290 = .ok (.getfield 207, 3) := by decide +kernel
theorem d_Model_run_IIII_293 : decode b_Model_run_IIII 293 = .ok (.aload_n 0, 1) := by decide +kernel
theorem d_Model_run_IIII_294 : decode b_Model_run_IIII 294 = .ok (.getfield 799, 3) := by decide +kernel
theorem d_Model_run_IIII_297 : decode b_Model_run_IIII 297 = .ok (.iaload, 1) := by decide +kernel
theorem d_Model_run_IIII_298 : decode b_Model_run_IIII 298 = .ok (.iastore, 1) := by decide +kernel
theorem d_Model_run_IIII_299 : decode b_Model_run_IIII 299 = .ok (.aload_n 0, 1) := by decide +kernel
theorem d_Model_run_IIII_300 : decode b_Model_run_IIII 300 = .ok (.getfield 231, 3) := by decide +kernel
theorem d_Model_run_IIII_303 : decode b_Model_run_IIII 303 = .ok (.iload 5, 2) := by decide +kernel
theorem d_Model_run_IIII_305 : decode b_Model_run_IIII 305 = .ok (.aload_n 0, 1) := by decide +kernel
theorem d_Model_run_IIII_306 : decode b_Model_run_IIII 306 = .ok (.getfield 210, 3) := by decide +kernel
theorem d_Model_run_IIII_309 : decode b_Model_run_IIII 309 = .ok (.aload_n 0, 1) := by decide +kernel
theorem d_Model_run_IIII_310 : decode b_Model_run_IIII 310 = .ok (.getfield 799, 3) := by decide +kernel
theorem d_Model_run_IIII_313 : decode b_Model_run_IIII 313 = .ok (.iaload, 1) := by decide +kernel
theorem d_Model_run_IIII_314 : decode b_Model_run_IIII 314 = .ok (.iastore, 1) := by decide +kernel
theorem d_Model_run_IIII_315 : decode b_Model_run_IIII 315 = .ok (.aload_n 0, 1) := by decide +kernel
theorem d_Model_run_IIII_316 : decode b_Model_run_IIII 316 = .ok (.getfield 234, 3) := by decide +kernel
theorem d_Model_run_IIII_319 : decode b_Model_run_IIII 319 = .ok (.iload 5, 2) := by decide +kernel
theorem d_Model_run_IIII_321 : decode b_Model_run_IIII 321 = .ok (.aload_n 0, 1) := by decide +kernel
theorem d_Model_run_IIII_322 : decode b_Model_run_IIII 322 = .ok (.getfield 213, 3) := by decide +kernel
theorem d_Model_run_IIII_325 : decode b_Model_run_IIII 325 = .ok (.aload_n 0, 1) := by decide +kernel
theorem d_Model_run_IIII_326 : decode b_Model_run_IIII 326 = .ok (.getfield 799, 3) := by decide +kernel
theorem d_Model_run_IIII_329 : decode b_Model_run_IIII 329 = .ok (.iaload, 1) := by decide +kernel
theorem d_Model_run_IIII_330 : decode b_Model_run_IIII 330 = .ok (.iastore, 1) := by decide +kernel
theorem d_Model_run_IIII_331 : decode b_Model_run_IIII 331 = .ok (.aload_n 0, 1) := by decide +kernel
theorem d_Model_run_IIII_332 : decode b_Model_run_IIII 332 = .ok (.getfield 237, 3) := by decide +kernel
theorem d_Model_run_IIII_335 : decode b_Model_run_IIII 335 = .ok (.iload 5, 2) := by decide +kernel
theorem d_Model_run_IIII_337 : decode b_Model_run_IIII 337 = .ok (.aload_n 0, 1) := by decide +kernel
theorem d_Model_run_IIII_338 : decode b_Model_run_IIII 338 = .ok (.getfield 216, 3) := by decide +kernel
theorem d_Model_run_IIII_341 : decode b_Model_run_IIII 341 = .ok (.aload_n 0, 1) := by decide +kernel
theorem d_Model_run_IIII_342 : decode b_Model_run_IIII 342 = .ok (.getfield 799, 3) := by decide +kernel
theorem d_Model_run_IIII_345 : decode b_Model_run_IIII 345 = .ok (.iaload, 1) := by decide +kernel
theorem d_Model_run_IIII_346 : decode b_Model_run_IIII 346 = .ok (.iastore, 1) := by decide +kernel
theorem d_Model_run_IIII_347 : decode b_Model_run_IIII 347 = .ok (.return_, 1) := by decide +kernel
theorem d_Model_run_IIII_348 : decode b_Model_run_IIII 348 = .ok (.aload_n 0, 1) := by decide +kernel
theorem d_Model_run_IIII_349 : decode b_Model_run_IIII 349 = .ok (.iload_n 2, 1) := by decide +kernel
theorem d_Model_run_IIII_350 : decode b_Model_run_IIII 350 = .ok (.iload_n 3, 1) := by decide +kernel
theorem d_Model_run_IIII_351 : decode b_Model_run_IIII 351 = .ok (.invokevirtual 875, 3) := by decide +kernel
theorem ml_Model_875 : Cond.methodLink R_Model 875 ⟨"PointerHouseModel", "invoke", "(II)V"⟩ ∈ lw_good := lg_right (i := 2771) (by decide +kernel) rfl
theorem d_Model_run_IIII_354 : decode b_Model_run_IIII 354 = .ok (.return_, 1) := by decide +kernel
theorem d_Model_run_IIII_355 : decode b_Model_run_IIII 355 = .ok (.aload_n 0, 1) := by decide +kernel
theorem d_Model_run_IIII_356 : decode b_Model_run_IIII 356 = .ok (.invokevirtual 878, 3) := by decide +kernel
theorem ml_Model_878 : Cond.methodLink R_Model 878 ⟨"PointerHouseModel", "back", "()V"⟩ ∈ lw_good := lg_right (i := 2779) (by decide +kernel) rfl
theorem d_Model_run_IIII_359 : decode b_Model_run_IIII 359 = .ok (.return_, 1) := by decide +kernel
theorem d_Model_run_IIII_360 : decode b_Model_run_IIII 360 = .ok (.aload_n 0, 1) := by decide +kernel
theorem d_Model_run_IIII_361 : decode b_Model_run_IIII 361 = .ok (.iload_n 2, 1) := by decide +kernel
theorem d_Model_run_IIII_362 : decode b_Model_run_IIII 362 = .ok (.putfield 863, 3) := by decide +kernel
theorem d_Model_run_IIII_365 : decode b_Model_run_IIII 365 = .ok (.return_, 1) := by decide +kernel
theorem d_Model_run_IIII_366 : decode b_Model_run_IIII 366 = .ok (.aload_n 0, 1) := by decide +kernel
theorem d_Model_run_IIII_367 : decode b_Model_run_IIII 367 = .ok (.dup, 1) := by decide +kernel
theorem d_Model_run_IIII_368 : decode b_Model_run_IIII 368 = .ok (.getfield 799, 3) := by decide +kernel
theorem d_Model_run_IIII_371 : decode b_Model_run_IIII 371 = .ok (.iconst 1, 1) := by decide +kernel
theorem d_Model_run_IIII_372 : decode b_Model_run_IIII 372 = .ok (.isub, 1) := by decide +kernel
theorem d_Model_run_IIII_373 : decode b_Model_run_IIII 373 = .ok (.putfield 799, 3) := by decide +kernel
theorem d_Model_run_IIII_376 : decode b_Model_run_IIII 376 = .ok (.iload_n 3, 1) := by decide +kernel
theorem d_Model_run_IIII_377 : decode b_Model_run_IIII 377 = .ok (.ifCond .ne 18, 3) := by decide +kernel
theorem d_Model_run_IIII_380 : decode b_Model_run_IIII 380 = .ok (.aload_n 0, 1) := by decide +kernel
theorem d_Model_run_IIII_381 : decode b_Model_run_IIII 381 = .ok (.getfield 207, 3) := by decide +kernel
theorem d_Model_run_IIII_384 : decode b_Model_run_IIII 384 = .ok (.aload_n 0, 1) := by decide +kernel
theorem d_Model_run_IIII_385 : decode b_Model_run_IIII 385 = .ok (.getfield 799, 3) := by decide +kernel
theorem d_Model_run_IIII_388 : decode b_Model_run_IIII 388 = .ok (.iaload, 1) := by decide +kernel
theorem d_Model_run_IIII_389 : decode b_Model_run_IIII 389 = .ok (.ifCond .ne 24, 3) := by decide +kernel
theorem d_Model_run_IIII_392 : decode b_Model_run_IIII 392 = .ok (.goto 16, 3) := by decide +kernel
theorem d_Model_run_IIII_395 : decode b_Model_run_IIII 395 = .ok (.aload_n 0, 1) := by decide +kernel
theorem d_Model_run_IIII_396 : decode b_Model_run_IIII 396 = .ok (.getfield 210, 3) := by decide +kernel
theorem d_Model_run_IIII_399 : decode b_Model_run_IIII 399 = .ok (.aload_n 0, 1) := by decide +kernel
theorem d_Model_run_IIII_400 : decode b_Model_run_IIII 400 = .ok (.getfield 799, 3) := by decide +kernel
theorem d_Model_run_IIII_403 : decode b_Model_run_IIII 403 = .ok (.iaload, 1) := by decide +kernel
theorem d_Model_run_IIII_404 : decode b_Model_run_IIII 404 = .ok (.iconst (-1), 1) := by decide +kernel
theorem d_Model_run_IIII_405 : decode b_Model_run_IIII 405 = .ok (.if_icmp .ne 8, 3) := by decide +kernel
theorem d_Model_run_IIII_408 : decode b_Model_run_IIII 408 = .ok (.aload_n 0, 1) := by decide +kernel
theorem d_Model_run_IIII_409 : decode b_Model_run_IIII 409 = .ok (.iload_n 2, 1) := by decide +kernel
theorem d_Model_run_IIII_410 : decode b_Model_run_IIII 410 = .ok (.putfield 863, 3) := by decide +kernel
theorem d_Model_run_IIII_413 : decode b_Model_run_IIII 413 = .ok (.return_, 1) := by decide +kernel
theorem d_Model_run_IIII_414 : decode b_Model_run_IIII 414 = .ok (.aload_n 0, 1) := by decide +kernel
theorem d_Model_run_IIII_415 : decode b_Model_run_IIII 415 = .ok (.dup, 1) := by decide +kernel
theorem d_Model_run_IIII_416 : decode b_Model_run_IIII 416 = .ok (.getfield 799, 3) := by decide +kernel
theorem d_Model_run_IIII_419 : decode b_Model_run_IIII 419 = .ok (.iconst 1, 1) := by decide +kernel
theorem d_Model_run_IIII_420 : decode b_Model_run_IIII 420 = .ok (.isub, 1) := by decide +kernel
theorem d_Model_run_IIII_421 : decode b_Model_run_IIII 421 = .ok (.putfield 799, 3) := by decide +kernel
theorem d_Model_run_IIII_424 : decode b_Model_run_IIII 424 = .ok (.aload_n 0, 1) := by decide +kernel
theorem d_Model_run_IIII_425 : decode b_Model_run_IIII 425 = .ok (.getfield 811, 3) := by decide +kernel
theorem d_Model_run_IIII_428 : decode b_Model_run_IIII 428 = .ok (.sipush 300, 3) := by decide +kernel
theorem d_Model_run_IIII_431 : decode b_Model_run_IIII 431 = .ok (.if_icmp .ge 21, 3) := by decide +kernel
theorem d_Model_run_IIII_434 : decode b_Model_run_IIII 434 = .ok (.aload_n 0, 1) := by decide +kernel
theorem d_Model_run_IIII_435 : decode b_Model_run_IIII 435 = .ok (.getfield 310, 3) := by decide +kernel
theorem fl_Model_310 : Cond.fieldLink R_Model 310 "PointerHouseModel" "printed" "[I" ∈ lw_good := lg_right (i := 1971) (by decide +kernel) rfl
theorem d_Model_run_IIII_438 : decode b_Model_run_IIII 438 = .ok (.aload_n 0, 1) := by decide +kernel
theorem d_Model_run_IIII_439 : decode b_Model_run_IIII 439 = .ok (.getfield 811, 3) := by decide +kernel
theorem d_Model_run_IIII_442 : decode b_Model_run_IIII 442 = .ok (.aload_n 0, 1) := by decide +kernel
theorem d_Model_run_IIII_443 : decode b_Model_run_IIII 443 = .ok (.getfield 207, 3) := by decide +kernel
theorem d_Model_run_IIII_446 : decode b_Model_run_IIII 446 = .ok (.aload_n 0, 1) := by decide +kernel
theorem d_Model_run_IIII_447 : decode b_Model_run_IIII 447 = .ok (.getfield 799, 3) := by decide +kernel
theorem d_Model_run_IIII_450 : decode b_Model_run_IIII 450 = .ok (.iaload, 1) := by decide +kernel
theorem d_Model_run_IIII_451 : decode b_Model_run_IIII 451 = .ok (.iastore, 1) := by decide +kernel
theorem d_Model_run_IIII_452 : decode b_Model_run_IIII 452 = .ok (.aload_n 0, 1) := by decide +kernel
theorem d_Model_run_IIII_453 : decode b_Model_run_IIII 453 = .ok (.dup, 1) := by decide +kernel
theorem d_Model_run_IIII_454 : decode b_Model_run_IIII 454 = .ok (.getfield 811, 3) := by decide +kernel
theorem d_Model_run_IIII_457 : decode b_Model_run_IIII 457 = .ok (.iconst 1, 1) := by decide +kernel
theorem d_Model_run_IIII_458 : decode b_Model_run_IIII 458 = .ok (.iadd, 1) := by decide +kernel
theorem d_Model_run_IIII_459 : decode b_Model_run_IIII 459 = .ok (.putfield 811, 3) := by decide +kernel
theorem d_Model_run_IIII_462 : decode b_Model_run_IIII 462 = .ok (.return_, 1) := by decide +kernel
theorem d_Model_run_IIII_463 : decode b_Model_run_IIII 463 = .ok (.aload_n 0, 1) := by decide +kernel
theorem d_Model_run_IIII_464 : decode b_Model_run_IIII 464 = .ok (.dup, 1) := by decide +kernel
theorem d_Model_run_IIII_465 : decode b_Model_run_IIII 465 = .ok (.getfield 799, 3) := by decide +kernel
theorem d_Model_run_IIII_468 : decode b_Model_run_IIII 468 = .ok (.iconst 1, 1) := by decide +kernel
theorem d_Model_run_IIII_469 : decode b_Model_run_IIII 469 = .ok (.isub, 1) := by decide +kernel
theorem d_Model_run_IIII_470 : decode b_Model_run_IIII 470 = .ok (.putfield 799, 3) := by decide +kernel
theorem d_Model_run_IIII_473 : decode b_Model_run_IIII 473 = .ok (.aload_n 0, 1) := by decide +kernel
theorem d_Model_run_IIII_474 : decode b_Model_run_IIII 474 = .ok (.aload_n 0, 1) := by decide +kernel
theorem d_Model_run_IIII_475 : decode b_Model_run_IIII 475 = .ok (.getfield 207, 3) := by decide +kernel
theorem d_Model_run_IIII_478 : decode b_Model_run_IIII 478 = .ok (.aload_n 0, 1) := by decide +kernel
theorem d_Model_run_IIII_479 : decode b_Model_run_IIII 479 = .ok (.getfield 799, 3) := by decide +kernel
theorem d_Model_run_IIII_482 : decode b_Model_run_IIII 482 = .ok (.iaload, 1) := by decide +kernel
theorem d_Model_run_IIII_483 : decode b_Model_run_IIII 483 = .ok (.invokevirtual 847, 3) := by decide +kernel
theorem d_Model_run_IIII_486 : decode b_Model_run_IIII 486 = .ok (.return_, 1) := by decide +kernel
theorem d_Model_run_IIII_487 : decode b_Model_run_IIII 487 = .ok (.aload_n 0, 1) := by decide +kernel
theorem d_Model_run_IIII_488 : decode b_Model_run_IIII 488 = .ok (.dup, 1) := by decide +kernel
theorem d_Model_run_IIII_489 : decode b_Model_run_IIII 489 = .ok (.getfield 799, 3) := by decide +kernel
theorem d_Model_run_IIII_492 : decode b_Model_run_IIII 492 = .ok (.iload_n 2, 1) := by decide +kernel
theorem d_Model_run_IIII_493 : decode b_Model_run_IIII 493 = .ok (.isub, 1) := by decide +kernel
theorem d_Model_run_IIII_494 : decode b_Model_run_IIII 494 = .ok (.putfield 799, 3) := by decide +kernel
theorem d_Model_run_IIII_497 : decode b_Model_run_IIII 497 = .ok (.return_, 1) := by decide +kernel
theorem d_Model_run_IIII_498 : decode b_Model_run_IIII 498 = .ok (.aload_n 0, 1) := by decide +kernel
theorem d_Model_run_IIII_499 : decode b_Model_run_IIII 499 = .ok (.getfield 240, 3) := by decide +kernel
theorem d_Model_run_IIII_502 : decode b_Model_run_IIII 502 = .ok (.bipush 12, 2) := by decide +kernel
theorem d_Model_run_IIII_504 : decode b_Model_run_IIII 504 = .ok (.aload_n 0, 1) := by decide +kernel
theorem d_Model_run_IIII_505 : decode b_Model_run_IIII 505 = .ok (.getfield 808, 3) := by decide +kernel
theorem d_Model_run_IIII_508 : decode b_Model_run_IIII 508 = .ok (.iconst 1, 1) := by decide +kernel
theorem d_Model_run_IIII_509 : decode b_Model_run_IIII 509 = .ok (.isub, 1) := by decide +kernel
theorem d_Model_run_IIII_510 : decode b_Model_run_IIII 510 = .ok (.imul, 1) := by decide +kernel
theorem d_Model_run_IIII_511 : decode b_Model_run_IIII 511 = .ok (.iload_n 2, 1) := by decide +kernel
theorem d_Model_run_IIII_512 : decode b_Model_run_IIII 512 = .ok (.iadd, 1) := by decide +kernel
theorem d_Model_run_IIII_513 : decode b_Model_run_IIII 513 = .ok (.aload_n 0, 1) := by decide +kernel
theorem d_Model_run_IIII_514 : decode b_Model_run_IIII 514 = .ok (.getfield 826, 3) := by decide +kernel
theorem d_Model_run_IIII_517 : decode b_Model_run_IIII 517 = .ok (.iastore, 1) := by decide +kernel
theorem d_Model_run_IIII_518 : decode b_Model_run_IIII 518 = .ok (.aload_n 0, 1) := by decide +kernel
theorem d_Model_run_IIII_519 : decode b_Model_run_IIII 519 = .ok (.aload_n 0, 1) := by decide +kernel
theorem d_Model_run_IIII_520 : decode b_Model_run_IIII 520 = .ok (.getfield 826, 3) := by decide +kernel
theorem d_Model_run_IIII_523 : decode b_Model_run_IIII 523 = .ok (.invokevirtual 881, 3) := by decide +kernel
theorem ml_Model_881 : Cond.methodLink R_Model 881 ⟨"PointerHouseModel", "begin", "(I)V"⟩ ∈ lw_good := lg_right (i := 2747) (by decide +kernel) rfl
theorem d_Model_run_IIII_526 : decode b_Model_run_IIII 526 = .ok (.aload_n 0, 1) := by decide +kernel
theorem d_Model_run_IIII_527 : decode b_Model_run_IIII 527 = .ok (.dup, 1) := by decide +kernel
theorem d_Model_run_IIII_528 : decode b_Model_run_IIII 528 = .ok (.getfield 826, 3) := by decide +kernel
theorem d_Model_run_IIII_531 : decode b_Model_run_IIII 531 = .ok (.iconst 1, 1) := by decide +kernel
theorem d_Model_run_IIII_532 : decode b_Model_run_IIII 532 = .ok (.iadd, 1) := by decide +kernel
theorem d_Model_run_IIII_533 : decode b_Model_run_IIII 533 = .ok (.putfield 826, 3) := by decide +kernel
theorem d_Model_run_IIII_536 : decode b_Model_run_IIII 536 = .ok (.return_, 1) := by decide +kernel
theorem d_Model_run_IIII_537 : decode b_Model_run_IIII 537 = .ok (.aload_n 0, 1) := by decide +kernel
theorem d_Model_run_IIII_538 : decode b_Model_run_IIII 538 = .ok (.getfield 240, 3) := by decide +kernel
theorem d_Model_run_IIII_541 : decode b_Model_run_IIII 541 = .ok (.bipush 12, 2) := by decide +kernel
theorem d_Model_run_IIII_543 : decode b_Model_run_IIII 543 = .ok (.aload_n 0, 1) := by decide +kernel
theorem d_Model_run_IIII_544 : decode b_Model_run_IIII 544 = .ok (.getfield 808, 3) := by decide +kernel
theorem d_Model_run_IIII_547 : decode b_Model_run_IIII 547 = .ok (.iconst 1, 1) := by decide +kernel
theorem d_Model_run_IIII_548 : decode b_Model_run_IIII 548 = .ok (.isub, 1) := by decide +kernel
theorem d_Model_run_IIII_549 : decode b_Model_run_IIII 549 = .ok (.imul, 1) := by decide +kernel
theorem d_Model_run_IIII_550 : decode b_Model_run_IIII 550 = .ok (.iload_n 2, 1) := by decide +kernel
theorem d_Model_run_IIII_551 : decode b_Model_run_IIII 551 = .ok (.iadd, 1) := by decide +kernel
theorem d_Model_run_IIII_552 : decode b_Model_run_IIII 552 = .ok (.iaload, 1) := by decide +kernel
theorem d_Model_run_IIII_553 : decode b_Model_run_IIII 553 = .ok (.ifCond .lt 23, 3) := by decide +kernel
theorem d_Model_run_IIII_556 : decode b_Model_run_IIII 556 = .ok (.aload_n 0, 1) := by decide +kernel
theorem d_Model_run_IIII_557 : decode b_Model_run_IIII 557 = .ok (.aload_n 0, 1) := by decide +kernel
theorem d_Model_run_IIII_558 : decode b_Model_run_IIII 558 = .ok (.getfield 240, 3) := by decide +kernel
theorem d_Model_run_IIII_561 : decode b_Model_run_IIII 561 = .ok (.bipush 12, 2) := by decide +kernel
theorem d_Model_run_IIII_563 : decode b_Model_run_IIII 563 = .ok (.aload_n 0, 1) := by decide +kernel
theorem d_Model_run_IIII_564 : decode b_Model_run_IIII 564 = .ok (.getfield 808, 3) := by decide +kernel
theorem d_Model_run_IIII_567 : decode b_Model_run_IIII 567 = .ok (.iconst 1, 1) := by decide +kernel
theorem d_Model_run_IIII_568 : decode b_Model_run_IIII 568 = .ok (.isub, 1) := by decide +kernel
theorem d_Model_run_IIII_569 : decode b_Model_run_IIII 569 = .ok (.imul, 1) := by decide +kernel
theorem d_Model_run_IIII_570 : decode b_Model_run_IIII 570 = .ok (.iload_n 2, 1) := by decide +kernel
theorem d_Model_run_IIII_571 : decode b_Model_run_IIII 571 = .ok (.iadd, 1) := by decide +kernel
theorem d_Model_run_IIII_572 : decode b_Model_run_IIII 572 = .ok (.iaload, 1) := by decide +kernel
theorem d_Model_run_IIII_573 : decode b_Model_run_IIII 573 = .ok (.invokevirtual 860, 3) := by decide +kernel
theorem d_Model_run_IIII_576 : decode b_Model_run_IIII 576 = .ok (.aload_n 0, 1) := by decide +kernel
theorem d_Model_run_IIII_577 : decode b_Model_run_IIII 577 = .ok (.getfield 240, 3) := by decide +kernel
theorem d_Model_run_IIII_580 : decode b_Model_run_IIII 580 = .ok (.bipush 12, 2) := by decide +kernel
theorem d_Model_run_IIII_582 : decode b_Model_run_IIII 582 = .ok (.aload_n 0, 1) := by decide +kernel
theorem d_Model_run_IIII_583 : decode b_Model_run_IIII 583 = .ok (.getfield 808, 3) := by decide +kernel
theorem d_Model_run_IIII_586 : decode b_Model_run_IIII 586 = .ok (.iconst 1, 1) := by decide +kernel
theorem d_Model_run_IIII_587 : decode b_Model_run_IIII 587 = .ok (.isub, 1) := by decide +kernel
theorem d_Model_run_IIII_588 : decode b_Model_run_IIII 588 = .ok (.imul, 1) := by decide +kernel
theorem d_Model_run_IIII_589 : decode b_Model_run_IIII 589 = .ok (.iload_n 2, 1) := by decide +kernel
theorem d_Model_run_IIII_590 : decode b_Model_run_IIII 590 = .ok (.iadd, 1) := by decide +kernel
theorem d_Model_run_IIII_591 : decode b_Model_run_IIII 591 = .ok (.iconst (-1), 1) := by decide +kernel
theorem d_Model_run_IIII_592 : decode b_Model_run_IIII 592 = .ok (.iastore, 1) := by decide +kernel
theorem d_Model_run_IIII_593 : decode b_Model_run_IIII 593 = .ok (.return_, 1) := by decide +kernel
theorem d_Model_run_IIII_594 : decode b_Model_run_IIII 594 = .ok (.aload_n 0, 1) := by decide +kernel
theorem d_Model_run_IIII_595 : decode b_Model_run_IIII 595 = .ok (.getfield 246, 3) := by decide +kernel
theorem d_Model_run_IIII_598 : decode b_Model_run_IIII 598 = .ok (.aload_n 0, 1) := by decide +kernel
theorem d_Model_run_IIII_599 : decode b_Model_run_IIII 599 = .ok (.getfield 832, 3) := by decide +kernel
theorem d_Model_run_IIII_602 : decode b_Model_run_IIII 602 = .ok (.iload_n 2, 1) := by decide +kernel
theorem d_Model_run_IIII_603 : decode b_Model_run_IIII 603 = .ok (.iastore, 1) := by decide +kernel
theorem d_Model_run_IIII_604 : decode b_Model_run_IIII 604 = .ok (.aload_n 0, 1) := by decide +kernel
theorem d_Model_run_IIII_605 : decode b_Model_run_IIII 605 = .ok (.getfield 249, 3) := by decide +kernel
theorem d_Model_run_IIII_608 : decode b_Model_run_IIII 608 = .ok (.aload_n 0, 1) := by decide +kernel
theorem d_Model_run_IIII_609 : decode b_Model_run_IIII 609 = .ok (.getfield 832, 3) := by decide +kernel
theorem d_Model_run_IIII_612 : decode b_Model_run_IIII 612 = .ok (.aload_n 0, 1) := by decide +kernel
theorem d_Model_run_IIII_613 : decode b_Model_run_IIII 613 = .ok (.getfield 808, 3) := by decide +kernel
theorem d_Model_run_IIII_616 : decode b_Model_run_IIII 616 = .ok (.iastore, 1) := by decide +kernel
theorem d_Model_run_IIII_617 : decode b_Model_run_IIII 617 = .ok (.aload_n 0, 1) := by decide +kernel
theorem d_Model_run_IIII_618 : decode b_Model_run_IIII 618 = .ok (.getfield 252, 3) := by decide +kernel
theorem d_Model_run_IIII_621 : decode b_Model_run_IIII 621 = .ok (.aload_n 0, 1) := by decide +kernel
theorem d_Model_run_IIII_622 : decode b_Model_run_IIII 622 = .ok (.getfield 832, 3) := by decide +kernel
theorem d_Model_run_IIII_625 : decode b_Model_run_IIII 625 = .ok (.aload_n 0, 1) := by decide +kernel
theorem d_Model_run_IIII_626 : decode b_Model_run_IIII 626 = .ok (.getfield 799, 3) := by decide +kernel
theorem d_Model_run_IIII_629 : decode b_Model_run_IIII 629 = .ok (.iastore, 1) := by decide +kernel
theorem d_Model_run_IIII_630 : decode b_Model_run_IIII 630 = .ok (.aload_n 0, 1) := by decide +kernel
theorem d_Model_run_IIII_631 : decode b_Model_run_IIII 631 = .ok (.getfield 255, 3) := by decide +kernel
theorem d_Model_run_IIII_634 : decode b_Model_run_IIII 634 = .ok (.aload_n 0, 1) := by decide +kernel
theorem d_Model_run_IIII_635 : decode b_Model_run_IIII 635 = .ok (.getfield 832, 3) := by decide +kernel
theorem d_Model_run_IIII_638 : decode b_Model_run_IIII 638 = .ok (.aload_n 0, 1) := by decide +kernel
theorem d_Model_run_IIII_639 : decode b_Model_run_IIII 639 = .ok (.getfield 826, 3) := by decide +kernel
theorem d_Model_run_IIII_642 : decode b_Model_run_IIII 642 = .ok (.iastore, 1) := by decide +kernel
theorem d_Model_run_IIII_643 : decode b_Model_run_IIII 643 = .ok (.aload_n 0, 1) := by decide +kernel
theorem d_Model_run_IIII_644 : decode b_Model_run_IIII 644 = .ok (.getfield 258, 3) := by decide +kernel
theorem d_Model_run_IIII_647 : decode b_Model_run_IIII 647 = .ok (.aload_n 0, 1) := by decide +kernel
theorem d_Model_run_IIII_648 : decode b_Model_run_IIII 648 = .ok (.getfield 832, 3) := by decide +kernel
theorem d_Model_run_IIII_651 : decode b_Model_run_IIII 651 = .ok (.iload_n 3, 1) := by decide +kernel
theorem d_Model_run_IIII_652 : decode b_Model_run_IIII 652 = .ok (.iastore, 1) := by decide +kernel
theorem d_Model_run_IIII_653 : decode b_Model_run_IIII 653 = .ok (.aload_n 0, 1) := by decide +kernel
theorem d_Model_run_IIII_654 : decode b_Model_run_IIII 654 = .ok (.dup, 1) := by decide +kernel
theorem d_Model_run_IIII_655 : decode b_Model_run_IIII 655 = .ok (.getfield 832, 3) := by decide +kernel
theorem d_Model_run_IIII_658 : decode b_Model_run_IIII 658 = .ok (.iconst 1, 1) := by decide +kernel
theorem d_Model_run_IIII_659 : decode b_Model_run_IIII 659 = .ok (.iadd, 1) := by decide +kernel
theorem d_Model_run_IIII_660 : decode b_Model_run_IIII 660 = .ok (.putfield 832, 3) := by decide +kernel
theorem d_Model_run_IIII_663 : decode b_Model_run_IIII 663 = .ok (.return_, 1) := by decide +kernel
theorem d_Model_run_IIII_664 : decode b_Model_run_IIII 664 = .ok (.aload_n 0, 1) := by decide +kernel
theorem d_Model_run_IIII_665 : decode b_Model_run_IIII 665 = .ok (.dup, 1) := by decide +kernel
theorem d_Model_run_IIII_666 : decode b_Model_run_IIII 666 = .ok (.getfield 832, 3) := by decide +kernel
theorem d_Model_run_IIII_669 : decode b_Model_run_IIII 669 = .ok (.iconst 1, 1) := by decide +kernel
theorem d_Model_run_IIII_670 : decode b_Model_run_IIII 670 = .ok (.isub, 1) := by decide +kernel
theorem d_Model_run_IIII_671 : decode b_Model_run_IIII 671 = .ok (.putfield 832, 3) := by decide +kernel
theorem d_Model_run_IIII_674 : decode b_Model_run_IIII 674 = .ok (.return_, 1) := by decide +kernel
theorem d_Model_run_IIII_675 : decode b_Model_run_IIII 675 = .ok (.aload_n 0, 1) := by decide +kernel
theorem d_Model_run_IIII_676 : decode b_Model_run_IIII 676 = .ok (.iload_n 1, 1) := by decide +kernel
theorem d_Model_run_IIII_677 : decode b_Model_run_IIII 677 = .ok (.iload_n 2, 1) := by decide +kernel
theorem d_Model_run_IIII_678 : decode b_Model_run_IIII 678 = .ok (.iload_n 3, 1) := by decide +kernel
theorem d_Model_run_IIII_679 : decode b_Model_run_IIII 679 = .ok (.iload 4, 2) := by decide +kernel
theorem d_Model_run_IIII_681 : decode b_Model_run_IIII 681 = .ok (.invokevirtual 884, 3) := by decide +kernel
theorem ml_Model_884 : Cond.methodLink R_Model 884 ⟨"PointerHouseModel", "makeBy", "(IIII)V"⟩ ∈ lw_good := lg_right (i := 2791) (by decide +kernel) rfl
theorem d_Model_run_IIII_684 : decode b_Model_run_IIII 684 = .ok (.return_, 1) := by decide +kernel
theorem d_Model_run_IIII_685 : decode b_Model_run_IIII 685 = .ok (.aload_n 0, 1) := by decide +kernel
theorem d_Model_run_IIII_686 : decode b_Model_run_IIII 686 = .ok (.iload_n 1, 1) := by decide +kernel
theorem d_Model_run_IIII_687 : decode b_Model_run_IIII 687 = .ok (.iload_n 2, 1) := by decide +kernel
theorem d_Model_run_IIII_688 : decode b_Model_run_IIII 688 = .ok (.invokevirtual 887, 3) := by decide +kernel
theorem ml_Model_887 : Cond.methodLink R_Model 887 ⟨"PointerHouseModel", "reckon", "(II)V"⟩ ∈ lw_good := lg_right (i := 2811) (by decide +kernel) rfl
theorem d_Model_run_IIII_691 : decode b_Model_run_IIII 691 = .ok (.return_, 1) := by decide +kernel
theorem d_Model_run_IIII_692 : decode b_Model_run_IIII 692 = .ok (.aload_n 0, 1) := by decide +kernel
theorem d_Model_run_IIII_693 : decode b_Model_run_IIII 693 = .ok (.iload_n 1, 1) := by decide +kernel
theorem d_Model_run_IIII_694 : decode b_Model_run_IIII 694 = .ok (.iload_n 2, 1) := by decide +kernel
theorem d_Model_run_IIII_695 : decode b_Model_run_IIII 695 = .ok (.iload_n 3, 1) := by decide +kernel
theorem d_Model_run_IIII_696 : decode b_Model_run_IIII 696 = .ok (.invokevirtual 890, 3) := by decide +kernel
theorem ml_Model_890 : Cond.methodLink R_Model 890 ⟨"PointerHouseModel", "touch", "(III)V"⟩ ∈ lw_good := lg_right (i := 2815) (by decide +kernel) rfl
theorem d_Model_run_IIII_699 : decode b_Model_run_IIII 699 = .ok (.return_, 1) := by decide +kernel
abbrev b_Model_input_ : ByteArray := prog_14_method_122_code
abbrev y_Model_input_ : MethodName := ⟨R_Model, "input", "()I"⟩
theorem co_Model_input_ : Cond.code y_Model_input_ b_Model_input_ 3 (some .int) ∈ lw_good := lg_in (tin_12 _ (List.mem_of_getElem? (i := 126) rfl)) rfl
abbrev w_Model_input_ : List Cond := Cond.code y_Model_input_ b_Model_input_ 3 (some .int) :: lw_good
theorem im_Model_input_ : Cond.instanceMethod y_Model_input_ ∈ lw_good := lg_right (i := 2765) (by decide +kernel) rfl
theorem se_Model_input_ : Cond.selects R_Model y_Model_input_ y_Model_input_ ∈ lw_good := lg_left (i := 215) (by decide +kernel) rfl
theorem d_Model_input__0 : decode b_Model_input_ 0 = .ok (.aload_n 0, 1) := by decide +kernel
theorem d_Model_input__1 : decode b_Model_input_ 1 = .ok (.getfield 829, 3) := by decide +kernel
theorem d_Model_input__4 : decode b_Model_input_ 4 = .ok (.ifCond .ne 5, 3) := by decide +kernel
theorem d_Model_input__7 : decode b_Model_input_ 7 = .ok (.iconst 0, 1) := by decide +kernel
theorem d_Model_input__8 : decode b_Model_input_ 8 = .ok (.ireturn, 1) := by decide +kernel
theorem d_Model_input__9 : decode b_Model_input_ 9 = .ok (.aload_n 0, 1) := by decide +kernel
theorem d_Model_input__10 : decode b_Model_input_ 10 = .ok (.getfield 307, 3) := by decide +kernel
theorem fl_Model_307 : Cond.fieldLink R_Model 307 "PointerHouseModel" "inputs" "[I" ∈ lw_good := lg_right (i := 1970) (by decide +kernel) rfl
theorem d_Model_input__13 : decode b_Model_input_ 13 = .ok (.iconst 0, 1) := by decide +kernel
theorem d_Model_input__14 : decode b_Model_input_ 14 = .ok (.iaload, 1) := by decide +kernel
theorem d_Model_input__15 : decode b_Model_input_ 15 = .ok (.istore_n 1, 1) := by decide +kernel
theorem d_Model_input__16 : decode b_Model_input_ 16 = .ok (.aload_n 0, 1) := by decide +kernel
theorem d_Model_input__17 : decode b_Model_input_ 17 = .ok (.dup, 1) := by decide +kernel
theorem d_Model_input__18 : decode b_Model_input_ 18 = .ok (.getfield 829, 3) := by decide +kernel
theorem d_Model_input__21 : decode b_Model_input_ 21 = .ok (.iconst 1, 1) := by decide +kernel
theorem d_Model_input__22 : decode b_Model_input_ 22 = .ok (.isub, 1) := by decide +kernel
theorem d_Model_input__23 : decode b_Model_input_ 23 = .ok (.putfield 829, 3) := by decide +kernel
theorem d_Model_input__26 : decode b_Model_input_ 26 = .ok (.iconst 0, 1) := by decide +kernel
theorem d_Model_input__27 : decode b_Model_input_ 27 = .ok (.istore_n 2, 1) := by decide +kernel
theorem d_Model_input__28 : decode b_Model_input_ 28 = .ok (.iload_n 2, 1) := by decide +kernel
theorem d_Model_input__29 : decode b_Model_input_ 29 = .ok (.aload_n 0, 1) := by decide +kernel
theorem d_Model_input__30 : decode b_Model_input_ 30 = .ok (.getfield 829, 3) := by decide +kernel
theorem d_Model_input__33 : decode b_Model_input_ 33 = .ok (.if_icmp .ge 23, 3) := by decide +kernel
theorem d_Model_input__36 : decode b_Model_input_ 36 = .ok (.aload_n 0, 1) := by decide +kernel
theorem d_Model_input__37 : decode b_Model_input_ 37 = .ok (.getfield 307, 3) := by decide +kernel
theorem d_Model_input__40 : decode b_Model_input_ 40 = .ok (.iload_n 2, 1) := by decide +kernel
theorem d_Model_input__41 : decode b_Model_input_ 41 = .ok (.aload_n 0, 1) := by decide +kernel
theorem d_Model_input__42 : decode b_Model_input_ 42 = .ok (.getfield 307, 3) := by decide +kernel
theorem d_Model_input__45 : decode b_Model_input_ 45 = .ok (.iload_n 2, 1) := by decide +kernel
theorem d_Model_input__46 : decode b_Model_input_ 46 = .ok (.iconst 1, 1) := by decide +kernel
theorem d_Model_input__47 : decode b_Model_input_ 47 = .ok (.iadd, 1) := by decide +kernel
theorem d_Model_input__48 : decode b_Model_input_ 48 = .ok (.iaload, 1) := by decide +kernel
theorem d_Model_input__49 : decode b_Model_input_ 49 = .ok (.iastore, 1) := by decide +kernel
theorem d_Model_input__50 : decode b_Model_input_ 50 = .ok (.iinc 2 1, 3) := by decide +kernel
theorem d_Model_input__53 : decode b_Model_input_ 53 = .ok (.goto (-25), 3) := by decide +kernel
theorem d_Model_input__56 : decode b_Model_input_ 56 = .ok (.iload_n 1, 1) := by decide +kernel
theorem d_Model_input__57 : decode b_Model_input_ 57 = .ok (.ireturn, 1) := by decide +kernel
abbrev b_Model_touch : ByteArray := prog_14_method_128_code
abbrev y_Model_touch : MethodName := ⟨R_Model, "touch", "(III)V"⟩
theorem co_Model_touch : Cond.code y_Model_touch b_Model_touch 10 none ∈ lw_good := lg_in (tin_12 _ (List.mem_of_getElem? (i := 178) rfl)) rfl
abbrev w_Model_touch : List Cond := Cond.code y_Model_touch b_Model_touch 10 none :: lw_good
theorem im_Model_touch : Cond.instanceMethod y_Model_touch ∈ lw_good := lg_right (i := 2817) (by decide +kernel) rfl
theorem se_Model_touch : Cond.selects R_Model y_Model_touch y_Model_touch ∈ lw_good := lg_left (i := 228) (by decide +kernel) rfl
theorem d_Model_touch_0 : decode b_Model_touch 0 = .ok (.aload_n 0, 1) := by decide +kernel
theorem d_Model_touch_1 : decode b_Model_touch 1 = .ok (.dup, 1) := by decide +kernel
theorem d_Model_touch_2 : decode b_Model_touch 2 = .ok (.getfield 799, 3) := by decide +kernel
theorem d_Model_touch_5 : decode b_Model_touch 5 = .ok (.iconst 1, 1) := by decide +kernel
theorem d_Model_touch_6 : decode b_Model_touch 6 = .ok (.isub, 1) := by decide +kernel
theorem d_Model_touch_7 : decode b_Model_touch 7 = .ok (.putfield 799, 3) := by decide +kernel
theorem d_Model_touch_10 : decode b_Model_touch 10 = .ok (.aload_n 0, 1) := by decide +kernel
theorem d_Model_touch_11 : decode b_Model_touch 11 = .ok (.getfield 207, 3) := by decide +kernel
theorem d_Model_touch_14 : decode b_Model_touch 14 = .ok (.aload_n 0, 1) := by decide +kernel
theorem d_Model_touch_15 : decode b_Model_touch 15 = .ok (.getfield 799, 3) := by decide +kernel
theorem d_Model_touch_18 : decode b_Model_touch 18 = .ok (.iaload, 1) := by decide +kernel
theorem d_Model_touch_19 : decode b_Model_touch 19 = .ok (.istore 4, 2) := by decide +kernel
theorem d_Model_touch_21 : decode b_Model_touch 21 = .ok (.aload_n 0, 1) := by decide +kernel
theorem d_Model_touch_22 : decode b_Model_touch 22 = .ok (.getfield 210, 3) := by decide +kernel
theorem d_Model_touch_25 : decode b_Model_touch 25 = .ok (.aload_n 0, 1) := by decide +kernel
theorem d_Model_touch_26 : decode b_Model_touch 26 = .ok (.getfield 799, 3) := by decide +kernel
theorem d_Model_touch_29 : decode b_Model_touch 29 = .ok (.iaload, 1) := by decide +kernel
theorem d_Model_touch_30 : decode b_Model_touch 30 = .ok (.istore 5, 2) := by decide +kernel
theorem d_Model_touch_32 : decode b_Model_touch 32 = .ok (.aload_n 0, 1) := by decide +kernel
theorem d_Model_touch_33 : decode b_Model_touch 33 = .ok (.getfield 213, 3) := by decide +kernel
theorem d_Model_touch_36 : decode b_Model_touch 36 = .ok (.aload_n 0, 1) := by decide +kernel
theorem d_Model_touch_37 : decode b_Model_touch 37 = .ok (.getfield 799, 3) := by decide +kernel
theorem d_Model_touch_40 : decode b_Model_touch 40 = .ok (.iaload, 1) := by decide +kernel
theorem d_Model_touch_41 : decode b_Model_touch 41 = .ok (.istore 6, 2) := by decide +kernel
theorem d_Model_touch_43 : decode b_Model_touch 43 = .ok (.iload_n 1, 1) := by decide +kernel
theorem d_Model_touch_44 : decode b_Model_touch 44 = .ok (.lookupswitch 194 #[(8, 60), (9, 60), (13, 44), (24, 60)], 44) := by decide +kernel
theorem d_Model_touch_88 : decode b_Model_touch 88 = .ok (.aload_n 0, 1) := by decide +kernel
theorem d_Model_touch_89 : decode b_Model_touch 89 = .ok (.aload_n 0, 1) := by decide +kernel
theorem d_Model_touch_90 : decode b_Model_touch 90 = .ok (.getfield 216, 3) := by decide +kernel
theorem d_Model_touch_93 : decode b_Model_touch 93 = .ok (.aload_n 0, 1) := by decide +kernel
theorem d_Model_touch_94 : decode b_Model_touch 94 = .ok (.getfield 799, 3) := by decide +kernel
theorem d_Model_touch_97 : decode b_Model_touch 97 = .ok (.iaload, 1) := by decide +kernel
theorem d_Model_touch_98 : decode b_Model_touch 98 = .ok (.iconst (-1), 1) := by decide +kernel
theorem d_Model_touch_99 : decode b_Model_touch 99 = .ok (.iconst 0, 1) := by decide +kernel
theorem d_Model_touch_100 : decode b_Model_touch 100 = .ok (.invokevirtual 857, 3) := by decide +kernel
theorem d_Model_touch_103 : decode b_Model_touch 103 = .ok (.return_, 1) := by decide +kernel
theorem d_Model_touch_104 : decode b_Model_touch 104 = .ok (.aload_n 0, 1) := by decide +kernel
theorem d_Model_touch_105 : decode b_Model_touch 105 = .ok (.dup, 1) := by decide +kernel
theorem d_Model_touch_106 : decode b_Model_touch 106 = .ok (.getfield 799, 3) := by decide +kernel
theorem d_Model_touch_109 : decode b_Model_touch 109 = .ok (.iconst 1, 1) := by decide +kernel
theorem d_Model_touch_110 : decode b_Model_touch 110 = .ok (.isub, 1) := by decide +kernel
theorem d_Model_touch_111 : decode b_Model_touch 111 = .ok (.putfield 799, 3) := by decide +kernel
theorem d_Model_touch_114 : decode b_Model_touch 114 = .ok (.aload_n 0, 1) := by decide +kernel
theorem d_Model_touch_115 : decode b_Model_touch 115 = .ok (.getfield 207, 3) := by decide +kernel
theorem d_Model_touch_118 : decode b_Model_touch 118 = .ok (.aload_n 0, 1) := by decide +kernel
theorem d_Model_touch_119 : decode b_Model_touch 119 = .ok (.getfield 799, 3) := by decide +kernel
theorem d_Model_touch_122 : decode b_Model_touch 122 = .ok (.iaload, 1) := by decide +kernel
theorem d_Model_touch_123 : decode b_Model_touch 123 = .ok (.iload 4, 2) := by decide +kernel
theorem d_Model_touch_125 : decode b_Model_touch 125 = .ok (.iadd, 1) := by decide +kernel
theorem d_Model_touch_126 : decode b_Model_touch 126 = .ok (.istore 7, 2) := by decide +kernel
theorem d_Model_touch_128 : decode b_Model_touch 128 = .ok (.aload_n 0, 1) := by decide +kernel
theorem d_Model_touch_129 : decode b_Model_touch 129 = .ok (.getfield 210, 3) := by decide +kernel
theorem d_Model_touch_132 : decode b_Model_touch 132 = .ok (.aload_n 0, 1) := by decide +kernel
theorem d_Model_touch_133 : decode b_Model_touch 133 = .ok (.getfield 799, 3) := by decide +kernel
theorem d_Model_touch_136 : decode b_Model_touch 136 = .ok (.iaload, 1) := by decide +kernel
theorem d_Model_touch_137 : decode b_Model_touch 137 = .ok (.istore 8, 2) := by decide +kernel
theorem d_Model_touch_139 : decode b_Model_touch 139 = .ok (.aload_n 0, 1) := by decide +kernel
theorem d_Model_touch_140 : decode b_Model_touch 140 = .ok (.getfield 213, 3) := by decide +kernel
theorem d_Model_touch_143 : decode b_Model_touch 143 = .ok (.aload_n 0, 1) := by decide +kernel
theorem d_Model_touch_144 : decode b_Model_touch 144 = .ok (.getfield 799, 3) := by decide +kernel
theorem d_Model_touch_147 : decode b_Model_touch 147 = .ok (.iaload, 1) := by decide +kernel
theorem d_Model_touch_148 : decode b_Model_touch 148 = .ok (.istore 9, 2) := by decide +kernel
theorem d_Model_touch_150 : decode b_Model_touch 150 = .ok (.iload 7, 2) := by decide +kernel
theorem d_Model_touch_152 : decode b_Model_touch 152 = .ok (.ifCond .lt 17, 3) := by decide +kernel
theorem d_Model_touch_155 : decode b_Model_touch 155 = .ok (.iload 7, 2) := by decide +kernel
theorem d_Model_touch_157 : decode b_Model_touch 157 = .ok (.aload_n 0, 1) := by decide +kernel
theorem d_Model_touch_158 : decode b_Model_touch 158 = .ok (.getfield 216, 3) := by decide +kernel
theorem d_Model_touch_161 : decode b_Model_touch 161 = .ok (.aload_n 0, 1) := by decide +kernel
theorem d_Model_touch_162 : decode b_Model_touch 162 = .ok (.getfield 799, 3) := by decide +kernel
theorem d_Model_touch_165 : decode b_Model_touch 165 = .ok (.iaload, 1) := by decide +kernel
theorem d_Model_touch_166 : decode b_Model_touch 166 = .ok (.if_icmp .lt 9, 3) := by decide +kernel
theorem d_Model_touch_169 : decode b_Model_touch 169 = .ok (.aload_n 0, 1) := by decide +kernel
theorem d_Model_touch_170 : decode b_Model_touch 170 = .ok (.iconst 2, 1) := by decide +kernel
theorem d_Model_touch_171 : decode b_Model_touch 171 = .ok (.invokevirtual 847, 3) := by decide +kernel
theorem d_Model_touch_174 : decode b_Model_touch 174 = .ok (.return_, 1) := by decide +kernel
theorem d_Model_touch_175 : decode b_Model_touch 175 = .ok (.iload_n 1, 1) := by decide +kernel
theorem d_Model_touch_176 : decode b_Model_touch 176 = .ok (.bipush 8, 2) := by decide +kernel
theorem d_Model_touch_178 : decode b_Model_touch 178 = .ok (.if_icmp .ne 13, 3) := by decide +kernel
theorem d_Model_touch_181 : decode b_Model_touch 181 = .ok (.aload_n 0, 1) := by decide +kernel
theorem d_Model_touch_182 : decode b_Model_touch 182 = .ok (.iload 8, 2) := by decide +kernel
theorem d_Model_touch_184 : decode b_Model_touch 184 = .ok (.iload 9, 2) := by decide +kernel
theorem d_Model_touch_186 : decode b_Model_touch 186 = .ok (.iload 7, 2) := by decide +kernel
theorem d_Model_touch_188 : decode b_Model_touch 188 = .ok (.invokevirtual 906, 3) := by decide +kernel
theorem ml_Model_906 : Cond.methodLink R_Model 906 ⟨"PointerHouseModel", "pushPlace", "(III)V"⟩ ∈ lw_good := lg_right (i := 2819) (by decide +kernel) rfl
theorem d_Model_touch_191 : decode b_Model_touch 191 = .ok (.iload_n 1, 1) := by decide +kernel
theorem d_Model_touch_192 : decode b_Model_touch 192 = .ok (.bipush 9, 2) := by decide +kernel
theorem d_Model_touch_194 : decode b_Model_touch 194 = .ok (.if_icmp .ne 13, 3) := by decide +kernel
theorem d_Model_touch_197 : decode b_Model_touch 197 = .ok (.aload_n 0, 1) := by decide +kernel
theorem d_Model_touch_198 : decode b_Model_touch 198 = .ok (.iload 7, 2) := by decide +kernel
theorem d_Model_touch_200 : decode b_Model_touch 200 = .ok (.iload 8, 2) := by decide +kernel
theorem d_Model_touch_202 : decode b_Model_touch 202 = .ok (.iload 9, 2) := by decide +kernel
theorem d_Model_touch_204 : decode b_Model_touch 204 = .ok (.invokevirtual 857, 3) := by decide +kernel
theorem d_Model_touch_207 : decode b_Model_touch 207 = .ok (.iload_n 1, 1) := by decide +kernel
theorem d_Model_touch_208 : decode b_Model_touch 208 = .ok (.bipush 24, 2) := by decide +kernel
theorem d_Model_touch_210 : decode b_Model_touch 210 = .ok (.if_icmp .ne 27, 3) := by decide +kernel
theorem d_Model_touch_213 : decode b_Model_touch 213 = .ok (.aload_n 0, 1) := by decide +kernel
theorem d_Model_touch_214 : decode b_Model_touch 214 = .ok (.dup, 1) := by decide +kernel
theorem d_Model_touch_215 : decode b_Model_touch 215 = .ok (.getfield 799, 3) := by decide +kernel
theorem d_Model_touch_218 : decode b_Model_touch 218 = .ok (.iconst 1, 1) := by decide +kernel
theorem d_Model_touch_219 : decode b_Model_touch 219 = .ok (.isub, 1) := by decide +kernel
theorem d_Model_touch_220 : decode b_Model_touch 220 = .ok (.putfield 799, 3) := by decide +kernel
theorem d_Model_touch_223 : decode b_Model_touch 223 = .ok (.aload_n 0, 1) := by decide +kernel
theorem d_Model_touch_224 : decode b_Model_touch 224 = .ok (.iload 8, 2) := by decide +kernel
theorem d_Model_touch_226 : decode b_Model_touch 226 = .ok (.iload 9, 2) := by decide +kernel
theorem d_Model_touch_228 : decode b_Model_touch 228 = .ok (.iload 7, 2) := by decide +kernel
theorem d_Model_touch_230 : decode b_Model_touch 230 = .ok (.aload_n 0, 1) := by decide +kernel
theorem d_Model_touch_231 : decode b_Model_touch 231 = .ok (.getfield 799, 3) := by decide +kernel
theorem d_Model_touch_234 : decode b_Model_touch 234 = .ok (.invokevirtual 903, 3) := by decide +kernel
theorem ml_Model_903 : Cond.methodLink R_Model 903 ⟨"PointerHouseModel", "put", "(IIII)V"⟩ ∈ lw_good := lg_right (i := 2803) (by decide +kernel) rfl
theorem d_Model_touch_237 : decode b_Model_touch 237 = .ok (.return_, 1) := by decide +kernel
theorem d_Model_touch_238 : decode b_Model_touch 238 = .ok (.iload 5, 2) := by decide +kernel
theorem d_Model_touch_240 : decode b_Model_touch 240 = .ok (.iconst (-1), 1) := by decide +kernel
theorem d_Model_touch_241 : decode b_Model_touch 241 = .ok (.if_icmp .ne 9, 3) := by decide +kernel
theorem d_Model_touch_244 : decode b_Model_touch 244 = .ok (.aload_n 0, 1) := by decide +kernel
theorem d_Model_touch_245 : decode b_Model_touch 245 = .ok (.iconst 1, 1) := by decide +kernel
theorem d_Model_touch_246 : decode b_Model_touch 246 = .ok (.invokevirtual 847, 3) := by decide +kernel
theorem d_Model_touch_249 : decode b_Model_touch 249 = .ok (.return_, 1) := by decide +kernel
theorem d_Model_touch_250 : decode b_Model_touch 250 = .ok (.iload_n 1, 1) := by decide +kernel
theorem d_Model_touch_251 : decode b_Model_touch 251 = .ok (.tableswitch 251 6 23 #[162, 107, 251, 251, 96, 117, 85, 251, 251, 251, 251, 251, 251, 251, 251, 251, 251, 205], 85) := by decide +kernel
theorem d_Model_touch_336 : decode b_Model_touch 336 = .ok (.aload_n 0, 1) := by decide +kernel
theorem d_Model_touch_337 : decode b_Model_touch 337 = .ok (.iload 4, 2) := by decide +kernel
theorem d_Model_touch_339 : decode b_Model_touch 339 = .ok (.iload 5, 2) := by decide +kernel
theorem d_Model_touch_341 : decode b_Model_touch 341 = .ok (.iload 6, 2) := by decide +kernel
theorem d_Model_touch_343 : decode b_Model_touch 343 = .ok (.invokevirtual 857, 3) := by decide +kernel
theorem d_Model_touch_346 : decode b_Model_touch 346 = .ok (.return_, 1) := by decide +kernel
theorem d_Model_touch_347 : decode b_Model_touch 347 = .ok (.aload_n 0, 1) := by decide +kernel
theorem d_Model_touch_348 : decode b_Model_touch 348 = .ok (.iload 5, 2) := by decide +kernel
theorem d_Model_touch_350 : decode b_Model_touch 350 = .ok (.iload 6, 2) := by decide +kernel
theorem d_Model_touch_352 : decode b_Model_touch 352 = .ok (.iload 4, 2) := by decide +kernel
theorem d_Model_touch_354 : decode b_Model_touch 354 = .ok (.invokevirtual 906, 3) := by decide +kernel
theorem d_Model_touch_357 : decode b_Model_touch 357 = .ok (.return_, 1) := by decide +kernel
theorem d_Model_touch_358 : decode b_Model_touch 358 = .ok (.aload_n 0, 1) := by decide +kernel
theorem d_Model_touch_359 : decode b_Model_touch 359 = .ok (.iload_n 2, 1) := by decide +kernel
theorem d_Model_touch_360 : decode b_Model_touch 360 = .ok (.iload 5, 2) := by decide +kernel
theorem d_Model_touch_362 : decode b_Model_touch 362 = .ok (.iload 6, 2) := by decide +kernel
theorem d_Model_touch_364 : decode b_Model_touch 364 = .ok (.invokevirtual 857, 3) := by decide +kernel
theorem d_Model_touch_367 : decode b_Model_touch 367 = .ok (.return_, 1) := by decide +kernel
theorem d_Model_touch_368 : decode b_Model_touch 368 = .ok (.aload_n 0, 1) := by decide +kernel
theorem d_Model_touch_369 : decode b_Model_touch 369 = .ok (.getfield 273, 3) := by decide +kernel
theorem d_Model_touch_372 : decode b_Model_touch 372 = .ok (.iload 5, 2) := by decide +kernel
theorem d_Model_touch_374 : decode b_Model_touch 374 = .ok (.iaload, 1) := by decide +kernel
theorem d_Model_touch_375 : decode b_Model_touch 375 = .ok (.iload 6, 2) := by decide +kernel
theorem d_Model_touch_377 : decode b_Model_touch 377 = .ok (.if_icmp .eq 13, 3) := by decide +kernel
theorem d_Model_touch_380 : decode b_Model_touch 380 = .ok (.aload_n 0, 1) := by decide +kernel
theorem d_Model_touch_381 : decode b_Model_touch 381 = .ok (.dup, 1) := by decide +kernel
theorem d_Model_touch_382 : decode b_Model_touch 382 = .ok (.getfield 820, 3) := by decide +kernel
theorem d_Model_touch_385 : decode b_Model_touch 385 = .ok (.iconst 1, 1) := by decide +kernel
theorem d_Model_touch_386 : decode b_Model_touch 386 = .ok (.iadd, 1) := by decide +kernel
theorem d_Model_touch_387 : decode b_Model_touch 387 = .ok (.putfield 820, 3) := by decide +kernel
theorem d_Model_touch_390 : decode b_Model_touch 390 = .ok (.aload_n 0, 1) := by decide +kernel
theorem d_Model_touch_391 : decode b_Model_touch 391 = .ok (.aload_n 0, 1) := by decide +kernel
theorem d_Model_touch_392 : decode b_Model_touch 392 = .ok (.getfield 285, 3) := by decide +kernel
theorem d_Model_touch_395 : decode b_Model_touch 395 = .ok (.iload 5, 2) := by decide +kernel
theorem d_Model_touch_397 : decode b_Model_touch 397 = .ok (.iaload, 1) := by decide +kernel
theorem d_Model_touch_398 : decode b_Model_touch 398 = .ok (.iload_n 2, 1) := by decide +kernel
theorem d_Model_touch_399 : decode b_Model_touch 399 = .ok (.if_icmp .ne 7, 3) := by decide +kernel
theorem d_Model_touch_402 : decode b_Model_touch 402 = .ok (.iconst 1, 1) := by decide +kernel
theorem d_Model_touch_403 : decode b_Model_touch 403 = .ok (.goto 4, 3) := by decide +kernel
theorem d_Model_touch_406 : decode b_Model_touch 406 = .ok (.iconst 0, 1) := by decide +kernel
theorem d_Model_touch_407 : decode b_Model_touch 407 = .ok (.iconst (-1), 1) := by decide +kernel
theorem d_Model_touch_408 : decode b_Model_touch 408 = .ok (.iconst 0, 1) := by decide +kernel
theorem d_Model_touch_409 : decode b_Model_touch 409 = .ok (.invokevirtual 857, 3) := by decide +kernel
theorem d_Model_touch_412 : decode b_Model_touch 412 = .ok (.return_, 1) := by decide +kernel
theorem d_Model_touch_413 : decode b_Model_touch 413 = .ok (.iload_n 3, 1) := by decide +kernel
theorem d_Model_touch_414 : decode b_Model_touch 414 = .ok (.iconst 1, 1) := by decide +kernel
theorem d_Model_touch_415 : decode b_Model_touch 415 = .ok (.if_icmp .ne 22, 3) := by decide +kernel
theorem d_Model_touch_418 : decode b_Model_touch 418 = .ok (.aload_n 0, 1) := by decide +kernel
theorem d_Model_touch_419 : decode b_Model_touch 419 = .ok (.getfield 285, 3) := by decide +kernel
theorem d_Model_touch_422 : decode b_Model_touch 422 = .ok (.iload 5, 2) := by decide +kernel
theorem d_Model_touch_424 : decode b_Model_touch 424 = .ok (.iaload, 1) := by decide +kernel
theorem d_Model_touch_425 : decode b_Model_touch 425 = .ok (.iload_n 2, 1) := by decide +kernel
theorem d_Model_touch_426 : decode b_Model_touch 426 = .ok (.if_icmp .eq 11, 3) := by decide +kernel
theorem d_Model_touch_429 : decode b_Model_touch 429 = .ok (.aload_n 0, 1) := by decide +kernel
theorem d_Model_touch_430 : decode b_Model_touch 430 = .ok (.iconst 3, 1) := by decide +kernel
theorem d_Model_touch_431 : decode b_Model_touch 431 = .ok (.invokevirtual 847, 3) := by decide +kernel
theorem d_Model_touch_434 : decode b_Model_touch 434 = .ok (.goto 21, 3) := by decide +kernel
theorem d_Model_touch_437 : decode b_Model_touch 437 = .ok (.aload_n 0, 1) := by decide +kernel
theorem d_Model_touch_438 : decode b_Model_touch 438 = .ok (.iload 5, 2) := by decide +kernel
theorem d_Model_touch_440 : decode b_Model_touch 440 = .ok (.iload 6, 2) := by decide +kernel
theorem d_Model_touch_442 : decode b_Model_touch 442 = .ok (.iload_n 3, 1) := by decide +kernel
theorem d_Model_touch_443 : decode b_Model_touch 443 = .ok (.iconst 1, 1) := by decide +kernel
theorem d_Model_touch_444 : decode b_Model_touch 444 = .ok (.if_icmp .ne 7, 3) := by decide +kernel
theorem d_Model_touch_447 : decode b_Model_touch 447 = .ok (.iconst 0, 1) := by decide +kernel
theorem d_Model_touch_448 : decode b_Model_touch 448 = .ok (.goto 4, 3) := by decide +kernel
theorem d_Model_touch_451 : decode b_Model_touch 451 = .ok (.iload_n 2, 1) := by decide +kernel
theorem d_Model_touch_452 : decode b_Model_touch 452 = .ok (.invokevirtual 906, 3) := by decide +kernel
theorem d_Model_touch_455 : decode b_Model_touch 455 = .ok (.return_, 1) := by decide +kernel
theorem d_Model_touch_456 : decode b_Model_touch 456 = .ok (.aload_n 0, 1) := by decide +kernel
theorem d_Model_touch_457 : decode b_Model_touch 457 = .ok (.dup, 1) := by decide +kernel
theorem d_Model_touch_458 : decode b_Model_touch 458 = .ok (.getfield 799, 3) := by decide +kernel
theorem d_Model_touch_461 : decode b_Model_touch 461 = .ok (.iconst 1, 1) := by decide +kernel
theorem d_Model_touch_462 : decode b_Model_touch 462 = .ok (.isub, 1) := by decide +kernel
theorem d_Model_touch_463 : decode b_Model_touch 463 = .ok (.putfield 799, 3) := by decide +kernel
theorem d_Model_touch_466 : decode b_Model_touch 466 = .ok (.aload_n 0, 1) := by decide +kernel
theorem d_Model_touch_467 : decode b_Model_touch 467 = .ok (.iload 5, 2) := by decide +kernel
theorem d_Model_touch_469 : decode b_Model_touch 469 = .ok (.iload 6, 2) := by decide +kernel
theorem d_Model_touch_471 : decode b_Model_touch 471 = .ok (.iload_n 3, 1) := by decide +kernel
theorem d_Model_touch_472 : decode b_Model_touch 472 = .ok (.iconst 1, 1) := by decide +kernel
theorem d_Model_touch_473 : decode b_Model_touch 473 = .ok (.if_icmp .ne 7, 3) := by decide +kernel
theorem d_Model_touch_476 : decode b_Model_touch 476 = .ok (.iconst 0, 1) := by decide +kernel
theorem d_Model_touch_477 : decode b_Model_touch 477 = .ok (.goto 4, 3) := by decide +kernel
theorem d_Model_touch_480 : decode b_Model_touch 480 = .ok (.iload_n 2, 1) := by decide +kernel
theorem d_Model_touch_481 : decode b_Model_touch 481 = .ok (.aload_n 0, 1) := by decide +kernel
theorem d_Model_touch_482 : decode b_Model_touch 482 = .ok (.getfield 799, 3) := by decide +kernel
theorem d_Model_touch_485 : decode b_Model_touch 485 = .ok (.invokevirtual 903, 3) := by decide +kernel
theorem d_Model_touch_488 : decode b_Model_touch 488 = .ok (.iload_n 3, 1) := by decide +kernel
theorem d_Model_touch_489 : decode b_Model_touch 489 = .ok (.iconst 1, 1) := by decide +kernel
theorem d_Model_touch_490 : decode b_Model_touch 490 = .ok (.if_icmp .ne 11, 3) := by decide +kernel
theorem d_Model_touch_493 : decode b_Model_touch 493 = .ok (.aload_n 0, 1) := by decide +kernel
theorem d_Model_touch_494 : decode b_Model_touch 494 = .ok (.getfield 285, 3) := by decide +kernel
theorem d_Model_touch_497 : decode b_Model_touch 497 = .ok (.iload 5, 2) := by decide +kernel
theorem d_Model_touch_499 : decode b_Model_touch 499 = .ok (.iload_n 2, 1) := by decide +kernel
theorem d_Model_touch_500 : decode b_Model_touch 500 = .ok (.iastore, 1) := by decide +kernel
theorem d_Model_touch_501 : decode b_Model_touch 501 = .ok (.return_, 1) := by decide +kernel
theorem d_Model_touch_502 : decode b_Model_touch 502 = .ok (.aload_n 0, 1) := by decide +kernel
theorem d_Model_touch_503 : decode b_Model_touch 503 = .ok (.dup, 1) := by decide +kernel
theorem d_Model_touch_504 : decode b_Model_touch 504 = .ok (.getfield 799, 3) := by decide +kernel
theorem d_Model_touch_507 : decode b_Model_touch 507 = .ok (.iconst 1, 1) := by decide +kernel
theorem d_Model_touch_508 : decode b_Model_touch 508 = .ok (.isub, 1) := by decide +kernel
theorem d_Model_touch_509 : decode b_Model_touch 509 = .ok (.putfield 799, 3) := by decide +kernel
theorem d_Model_touch_512 : decode b_Model_touch 512 = .ok (.aload_n 0, 1) := by decide +kernel
theorem d_Model_touch_513 : decode b_Model_touch 513 = .ok (.iload 5, 2) := by decide +kernel
theorem d_Model_touch_515 : decode b_Model_touch 515 = .ok (.iload 6, 2) := by decide +kernel
theorem d_Model_touch_517 : decode b_Model_touch 517 = .ok (.iload 4, 2) := by decide +kernel
theorem d_Model_touch_519 : decode b_Model_touch 519 = .ok (.aload_n 0, 1) := by decide +kernel
theorem d_Model_touch_520 : decode b_Model_touch 520 = .ok (.getfield 799, 3) := by decide +kernel
theorem d_Model_touch_523 : decode b_Model_touch 523 = .ok (.invokevirtual 903, 3) := by decide +kernel
theorem d_Model_touch_526 : decode b_Model_touch 526 = .ok (.return_, 1) := by decide +kernel
abbrev b_Model_makeBy : ByteArray := prog_14_method_125_code
abbrev y_Model_makeBy : MethodName := ⟨R_Model, "makeBy", "(IIII)V"⟩
theorem co_Model_makeBy : Cond.code y_Model_makeBy b_Model_makeBy 12 none ∈ lw_good := lg_in (tin_12 _ (List.mem_of_getElem? (i := 154) rfl)) rfl
abbrev w_Model_makeBy : List Cond := Cond.code y_Model_makeBy b_Model_makeBy 12 none :: lw_good
theorem im_Model_makeBy : Cond.instanceMethod y_Model_makeBy ∈ lw_good := lg_right (i := 2793) (by decide +kernel) rfl
theorem se_Model_makeBy : Cond.selects R_Model y_Model_makeBy y_Model_makeBy ∈ lw_good := lg_left (i := 222) (by decide +kernel) rfl
theorem d_Model_makeBy_0 : decode b_Model_makeBy 0 = .ok (.aload_n 0, 1) := by decide +kernel
theorem d_Model_makeBy_1 : decode b_Model_makeBy 1 = .ok (.iload_n 2, 1) := by decide +kernel
theorem d_Model_makeBy_2 : decode b_Model_makeBy 2 = .ok (.invokevirtual 893, 3) := by decide +kernel
theorem ml_Model_893 : Cond.methodLink R_Model 893 ⟨"PointerHouseModel", "regionIndex", "(I)I"⟩ ∈ lw_good := lg_right (i := 2775) (by decide +kernel) rfl
theorem d_Model_makeBy_5 : decode b_Model_makeBy 5 = .ok (.istore 5, 2) := by decide +kernel
theorem d_Model_makeBy_7 : decode b_Model_makeBy 7 = .ok (.iload_n 1, 1) := by decide +kernel
theorem d_Model_makeBy_8 : decode b_Model_makeBy 8 = .ok (.bipush 15, 2) := by decide +kernel
theorem d_Model_makeBy_10 : decode b_Model_makeBy 10 = .ok (.if_icmp .ne 11, 3) := by decide +kernel
theorem d_Model_makeBy_13 : decode b_Model_makeBy 13 = .ok (.aload_n 0, 1) := by decide +kernel
theorem d_Model_makeBy_14 : decode b_Model_makeBy 14 = .ok (.iload 5, 2) := by decide +kernel
theorem d_Model_makeBy_16 : decode b_Model_makeBy 16 = .ok (.iload_n 3, 1) := by decide +kernel
theorem d_Model_makeBy_17 : decode b_Model_makeBy 17 = .ok (.invokevirtual 896, 3) := by decide +kernel
theorem ml_Model_896 : Cond.methodLink R_Model 896 ⟨"PointerHouseModel", "makeRow", "(II)V"⟩ ∈ lw_good := lg_right (i := 2795) (by decide +kernel) rfl
theorem d_Model_makeBy_20 : decode b_Model_makeBy 20 = .ok (.return_, 1) := by decide +kernel
theorem d_Model_makeBy_21 : decode b_Model_makeBy 21 = .ok (.iload_n 1, 1) := by decide +kernel
theorem d_Model_makeBy_22 : decode b_Model_makeBy 22 = .ok (.bipush 16, 2) := by decide +kernel
theorem d_Model_makeBy_24 : decode b_Model_makeBy 24 = .ok (.if_icmp .ne 12, 3) := by decide +kernel
theorem d_Model_makeBy_27 : decode b_Model_makeBy 27 = .ok (.aload_n 0, 1) := by decide +kernel
theorem d_Model_makeBy_28 : decode b_Model_makeBy 28 = .ok (.getfield 39, 3) := by decide +kernel
theorem d_Model_makeBy_31 : decode b_Model_makeBy 31 = .ok (.iload_n 3, 1) := by decide +kernel
theorem d_Model_makeBy_32 : decode b_Model_makeBy 32 = .ok (.iaload, 1) := by decide +kernel
theorem d_Model_makeBy_33 : decode b_Model_makeBy 33 = .ok (.goto 4, 3) := by decide +kernel
theorem d_Model_makeBy_36 : decode b_Model_makeBy 36 = .ok (.iconst 1, 1) := by decide +kernel
theorem d_Model_makeBy_37 : decode b_Model_makeBy 37 = .ok (.istore 6, 2) := by decide +kernel
theorem d_Model_makeBy_39 : decode b_Model_makeBy 39 = .ok (.iload_n 1, 1) := by decide +kernel
theorem d_Model_makeBy_40 : decode b_Model_makeBy 40 = .ok (.bipush 14, 2) := by decide +kernel
theorem d_Model_makeBy_42 : decode b_Model_makeBy 42 = .ok (.if_icmp .ne 8, 3) := by decide +kernel
theorem d_Model_makeBy_45 : decode b_Model_makeBy 45 = .ok (.iload_n 3, 1) := by decide +kernel
theorem d_Model_makeBy_46 : decode b_Model_makeBy 46 = .ok (.i2l, 1) := by decide +kernel
theorem d_Model_makeBy_47 : decode b_Model_makeBy 47 = .ok (.goto 14, 3) := by decide +kernel
theorem d_Model_makeBy_50 : decode b_Model_makeBy 50 = .ok (.iload_n 1, 1) := by decide +kernel
theorem d_Model_makeBy_51 : decode b_Model_makeBy 51 = .ok (.bipush 17, 2) := by decide +kernel
theorem d_Model_makeBy_53 : decode b_Model_makeBy 53 = .ok (.if_icmp .ne 7, 3) := by decide +kernel
theorem d_Model_makeBy_56 : decode b_Model_makeBy 56 = .ok (.lconst 1, 1) := by decide +kernel
theorem d_Model_makeBy_57 : decode b_Model_makeBy 57 = .ok (.goto 4, 3) := by decide +kernel
theorem d_Model_makeBy_60 : decode b_Model_makeBy 60 = .ok (.lconst 0, 1) := by decide +kernel
theorem d_Model_makeBy_61 : decode b_Model_makeBy 61 = .ok (.lstore 7, 2) := by decide +kernel
theorem d_Model_makeBy_63 : decode b_Model_makeBy 63 = .ok (.iconst 0, 1) := by decide +kernel
theorem d_Model_makeBy_64 : decode b_Model_makeBy 64 = .ok (.istore 9, 2) := by decide +kernel
theorem d_Model_makeBy_66 : decode b_Model_makeBy 66 = .ok (.iconst 0, 1) := by decide +kernel
theorem d_Model_makeBy_67 : decode b_Model_makeBy 67 = .ok (.istore 10, 2) := by decide +kernel
theorem d_Model_makeBy_69 : decode b_Model_makeBy 69 = .ok (.iload 10, 2) := by decide +kernel
theorem d_Model_makeBy_71 : decode b_Model_makeBy 71 = .ok (.aload_n 0, 1) := by decide +kernel
theorem d_Model_makeBy_72 : decode b_Model_makeBy 72 = .ok (.getfield 39, 3) := by decide +kernel
theorem d_Model_makeBy_75 : decode b_Model_makeBy 75 = .ok (.iload_n 1, 1) := by decide +kernel
theorem d_Model_makeBy_76 : decode b_Model_makeBy 76 = .ok (.bipush 14, 2) := by decide +kernel
theorem d_Model_makeBy_78 : decode b_Model_makeBy 78 = .ok (.if_icmp .ne 7, 3) := by decide +kernel
theorem d_Model_makeBy_81 : decode b_Model_makeBy 81 = .ok (.iconst 0, 1) := by decide +kernel
theorem d_Model_makeBy_82 : decode b_Model_makeBy 82 = .ok (.goto 4, 3) := by decide +kernel
theorem d_Model_makeBy_85 : decode b_Model_makeBy 85 = .ok (.iload_n 3, 1) := by decide +kernel
theorem d_Model_makeBy_86 : decode b_Model_makeBy 86 = .ok (.iaload, 1) := by decide +kernel
theorem d_Model_makeBy_87 : decode b_Model_makeBy 87 = .ok (.if_icmp .ge 69, 3) := by decide +kernel
theorem d_Model_makeBy_90 : decode b_Model_makeBy 90 = .ok (.iload_n 1, 1) := by decide +kernel
theorem d_Model_makeBy_91 : decode b_Model_makeBy 91 = .ok (.bipush 14, 2) := by decide +kernel
theorem d_Model_makeBy_93 : decode b_Model_makeBy 93 = .ok (.if_icmp .eq 63, 3) := by decide +kernel
theorem d_Model_makeBy_96 : decode b_Model_makeBy 96 = .ok (.aload_n 0, 1) := by decide +kernel
theorem d_Model_makeBy_97 : decode b_Model_makeBy 97 = .ok (.aload_n 0, 1) := by decide +kernel
theorem d_Model_makeBy_98 : decode b_Model_makeBy 98 = .ok (.getfield 51, 3) := by decide +kernel
theorem d_Model_makeBy_101 : decode b_Model_makeBy 101 = .ok (.aload_n 0, 1) := by decide +kernel
theorem d_Model_makeBy_102 : decode b_Model_makeBy 102 = .ok (.getfield 36, 3) := by decide +kernel
theorem d_Model_makeBy_105 : decode b_Model_makeBy 105 = .ok (.iload_n 3, 1) := by decide +kernel
theorem d_Model_makeBy_106 : decode b_Model_makeBy 106 = .ok (.iaload, 1) := by decide +kernel
theorem d_Model_makeBy_107 : decode b_Model_makeBy 107 = .ok (.iload 10, 2) := by decide +kernel
theorem d_Model_makeBy_109 : decode b_Model_makeBy 109 = .ok (.iadd, 1) := by decide +kernel
theorem d_Model_makeBy_110 : decode b_Model_makeBy 110 = .ok (.iaload, 1) := by decide +kernel
theorem d_Model_makeBy_111 : decode b_Model_makeBy 111 = .ok (.invokevirtual 796, 3) := by decide +kernel
theorem d_Model_makeBy_114 : decode b_Model_makeBy 114 = .ok (.istore 11, 2) := by decide +kernel
theorem d_Model_makeBy_116 : decode b_Model_makeBy 116 = .ok (.lload 7, 2) := by decide +kernel
theorem d_Model_makeBy_118 : decode b_Model_makeBy 118 = .ok (.iload_n 1, 1) := by decide +kernel
theorem d_Model_makeBy_119 : decode b_Model_makeBy 119 = .ok (.bipush 16, 2) := by decide +kernel
theorem d_Model_makeBy_121 : decode b_Model_makeBy 121 = .ok (.if_icmp .ne 9, 3) := by decide +kernel
theorem d_Model_makeBy_124 : decode b_Model_makeBy 124 = .ok (.iload 11, 2) := by decide +kernel
theorem d_Model_makeBy_126 : decode b_Model_makeBy 126 = .ok (.i2l, 1) := by decide +kernel
theorem d_Model_makeBy_127 : decode b_Model_makeBy 127 = .ok (.goto 4, 3) := by decide +kernel
theorem d_Model_makeBy_130 : decode b_Model_makeBy 130 = .ok (.lconst 0, 1) := by decide +kernel
theorem d_Model_makeBy_131 : decode b_Model_makeBy 131 = .ok (.ladd, 1) := by decide +kernel
theorem d_Model_makeBy_132 : decode b_Model_makeBy 132 = .ok (.lstore 7, 2) := by decide +kernel
theorem d_Model_makeBy_134 : decode b_Model_makeBy 134 = .ok (.iload 11, 2) := by decide +kernel
theorem d_Model_makeBy_136 : decode b_Model_makeBy 136 = .ok (.iload 9, 2) := by decide +kernel
theorem d_Model_makeBy_138 : decode b_Model_makeBy 138 = .ok (.if_icmp .le 8, 3) := by decide +kernel
theorem d_Model_makeBy_141 : decode b_Model_makeBy 141 = .ok (.iload 11, 2) := by decide +kernel
theorem d_Model_makeBy_143 : decode b_Model_makeBy 143 = .ok (.goto 5, 3) := by decide +kernel
theorem d_Model_makeBy_146 : decode b_Model_makeBy 146 = .ok (.iload 9, 2) := by decide +kernel
theorem d_Model_makeBy_148 : decode b_Model_makeBy 148 = .ok (.istore 9, 2) := by decide +kernel
theorem d_Model_makeBy_150 : decode b_Model_makeBy 150 = .ok (.iinc 10 1, 3) := by decide +kernel
theorem d_Model_makeBy_153 : decode b_Model_makeBy 153 = .ok (.goto (-84), 3) := by decide +kernel
theorem d_Model_makeBy_156 : decode b_Model_makeBy 156 = .ok (.lload 7, 2) := by decide +kernel
theorem d_Model_makeBy_158 : decode b_Model_makeBy 158 = .ok (.iload_n 1, 1) := by decide +kernel
theorem d_Model_makeBy_159 : decode b_Model_makeBy 159 = .ok (.bipush 17, 2) := by decide +kernel
theorem d_Model_makeBy_161 : decode b_Model_makeBy 161 = .ok (.if_icmp .ne 9, 3) := by decide +kernel
theorem d_Model_makeBy_164 : decode b_Model_makeBy 164 = .ok (.iload 9, 2) := by decide +kernel
theorem d_Model_makeBy_166 : decode b_Model_makeBy 166 = .ok (.i2l, 1) := by decide +kernel
theorem d_Model_makeBy_167 : decode b_Model_makeBy 167 = .ok (.goto 4, 3) := by decide +kernel
theorem d_Model_makeBy_170 : decode b_Model_makeBy 170 = .ok (.lconst 0, 1) := by decide +kernel
theorem d_Model_makeBy_171 : decode b_Model_makeBy 171 = .ok (.ladd, 1) := by decide +kernel
theorem d_Model_makeBy_172 : decode b_Model_makeBy 172 = .ok (.lstore 7, 2) := by decide +kernel
theorem d_Model_makeBy_174 : decode b_Model_makeBy 174 = .ok (.aload_n 0, 1) := by decide +kernel
theorem d_Model_makeBy_175 : decode b_Model_makeBy 175 = .ok (.iload 5, 2) := by decide +kernel
theorem d_Model_makeBy_177 : decode b_Model_makeBy 177 = .ok (.lload 7, 2) := by decide +kernel
theorem d_Model_makeBy_179 : decode b_Model_makeBy 179 = .ok (.iload 6, 2) := by decide +kernel
theorem d_Model_makeBy_181 : decode b_Model_makeBy 181 = .ok (.invokevirtual 899, 3) := by decide +kernel
theorem ml_Model_899 : Cond.methodLink R_Model 899 ⟨"PointerHouseModel", "make", "(IJI)I"⟩ ∈ lw_good := lg_right (i := 2799) (by decide +kernel) rfl
theorem d_Model_makeBy_184 : decode b_Model_makeBy 184 = .ok (.istore 10, 2) := by decide +kernel
theorem d_Model_makeBy_186 : decode b_Model_makeBy 186 = .ok (.iload 10, 2) := by decide +kernel
theorem d_Model_makeBy_188 : decode b_Model_makeBy 188 = .ok (.iconst (-1), 1) := by decide +kernel
theorem d_Model_makeBy_189 : decode b_Model_makeBy 189 = .ok (.if_icmp .ne 4, 3) := by decide +kernel
theorem d_Model_makeBy_192 : decode b_Model_makeBy 192 = .ok (.return_, 1) := by decide +kernel
theorem d_Model_makeBy_193 : decode b_Model_makeBy 193 = .ok (.aload_n 0, 1) := by decide +kernel
theorem d_Model_makeBy_194 : decode b_Model_makeBy 194 = .ok (.dup, 1) := by decide +kernel
theorem d_Model_makeBy_195 : decode b_Model_makeBy 195 = .ok (.getfield 799, 3) := by decide +kernel
theorem d_Model_makeBy_198 : decode b_Model_makeBy 198 = .ok (.iload 6, 2) := by decide +kernel
theorem d_Model_makeBy_200 : decode b_Model_makeBy 200 = .ok (.isub, 1) := by decide +kernel
theorem d_Model_makeBy_201 : decode b_Model_makeBy 201 = .ok (.putfield 799, 3) := by decide +kernel
theorem d_Model_makeBy_204 : decode b_Model_makeBy 204 = .ok (.iconst 0, 1) := by decide +kernel
theorem d_Model_makeBy_205 : decode b_Model_makeBy 205 = .ok (.istore 11, 2) := by decide +kernel
theorem d_Model_makeBy_207 : decode b_Model_makeBy 207 = .ok (.iload 11, 2) := by decide +kernel
theorem d_Model_makeBy_209 : decode b_Model_makeBy 209 = .ok (.iload 6, 2) := by decide +kernel
theorem d_Model_makeBy_211 : decode b_Model_makeBy 211 = .ok (.if_icmp .ge 31, 3) := by decide +kernel
theorem d_Model_makeBy_214 : decode b_Model_makeBy 214 = .ok (.aload_n 0, 1) := by decide +kernel
theorem d_Model_makeBy_215 : decode b_Model_makeBy 215 = .ok (.iload 10, 2) := by decide +kernel
theorem d_Model_makeBy_217 : decode b_Model_makeBy 217 = .ok (.aload_n 0, 1) := by decide +kernel
theorem d_Model_makeBy_218 : decode b_Model_makeBy 218 = .ok (.getfield 273, 3) := by decide +kernel
theorem d_Model_makeBy_221 : decode b_Model_makeBy 221 = .ok (.iload 10, 2) := by decide +kernel
theorem d_Model_makeBy_223 : decode b_Model_makeBy 223 = .ok (.iaload, 1) := by decide +kernel
theorem d_Model_makeBy_224 : decode b_Model_makeBy 224 = .ok (.iload 11, 2) := by decide +kernel
theorem d_Model_makeBy_226 : decode b_Model_makeBy 226 = .ok (.aload_n 0, 1) := by decide +kernel
theorem d_Model_makeBy_227 : decode b_Model_makeBy 227 = .ok (.getfield 799, 3) := by decide +kernel
theorem d_Model_makeBy_230 : decode b_Model_makeBy 230 = .ok (.iload 11, 2) := by decide +kernel
theorem d_Model_makeBy_232 : decode b_Model_makeBy 232 = .ok (.iadd, 1) := by decide +kernel
theorem d_Model_makeBy_233 : decode b_Model_makeBy 233 = .ok (.invokevirtual 903, 3) := by decide +kernel
theorem d_Model_makeBy_236 : decode b_Model_makeBy 236 = .ok (.iinc 11 1, 3) := by decide +kernel
theorem d_Model_makeBy_239 : decode b_Model_makeBy 239 = .ok (.goto (-32), 3) := by decide +kernel
theorem d_Model_makeBy_242 : decode b_Model_makeBy 242 = .ok (.iload_n 1, 1) := by decide +kernel
theorem d_Model_makeBy_243 : decode b_Model_makeBy 243 = .ok (.bipush 17, 2) := by decide +kernel
theorem d_Model_makeBy_245 : decode b_Model_makeBy 245 = .ok (.if_icmp .ne 12, 3) := by decide +kernel
theorem d_Model_makeBy_248 : decode b_Model_makeBy 248 = .ok (.aload_n 0, 1) := by decide +kernel
theorem d_Model_makeBy_249 : decode b_Model_makeBy 249 = .ok (.getfield 285, 3) := by decide +kernel
theorem d_Model_makeBy_252 : decode b_Model_makeBy 252 = .ok (.iload 10, 2) := by decide +kernel
theorem d_Model_makeBy_254 : decode b_Model_makeBy 254 = .ok (.iload 4, 2) := by decide +kernel
theorem d_Model_makeBy_256 : decode b_Model_makeBy 256 = .ok (.iastore, 1) := by decide +kernel
theorem d_Model_makeBy_257 : decode b_Model_makeBy 257 = .ok (.aload_n 0, 1) := by decide +kernel
theorem d_Model_makeBy_258 : decode b_Model_makeBy 258 = .ok (.iconst 0, 1) := by decide +kernel
theorem d_Model_makeBy_259 : decode b_Model_makeBy 259 = .ok (.iload 10, 2) := by decide +kernel
theorem d_Model_makeBy_261 : decode b_Model_makeBy 261 = .ok (.aload_n 0, 1) := by decide +kernel
theorem d_Model_makeBy_262 : decode b_Model_makeBy 262 = .ok (.getfield 273, 3) := by decide +kernel
theorem d_Model_makeBy_265 : decode b_Model_makeBy 265 = .ok (.iload 10, 2) := by decide +kernel
theorem d_Model_makeBy_267 : decode b_Model_makeBy 267 = .ok (.iaload, 1) := by decide +kernel
theorem d_Model_makeBy_268 : decode b_Model_makeBy 268 = .ok (.invokevirtual 857, 3) := by decide +kernel
theorem d_Model_makeBy_271 : decode b_Model_makeBy 271 = .ok (.return_, 1) := by decide +kernel
abbrev b_Model_invoke : ByteArray := prog_14_method_123_code
abbrev y_Model_invoke : MethodName := ⟨R_Model, "invoke", "(II)V"⟩
theorem co_Model_invoke : Cond.code y_Model_invoke b_Model_invoke 6 none ∈ lw_good := lg_in (tin_12 _ (List.mem_of_getElem? (i := 134) rfl)) rfl
abbrev w_Model_invoke : List Cond := Cond.code y_Model_invoke b_Model_invoke 6 none :: lw_good
theorem im_Model_invoke : Cond.instanceMethod y_Model_invoke ∈ lw_good := lg_right (i := 2773) (by decide +kernel) rfl
theorem se_Model_invoke : Cond.selects R_Model y_Model_invoke y_Model_invoke ∈ lw_good := lg_left (i := 217) (by decide +kernel) rfl
theorem d_Model_invoke_0 : decode b_Model_invoke 0 = .ok (.aload_n 0, 1) := by decide +kernel
theorem d_Model_invoke_1 : decode b_Model_invoke 1 = .ok (.getfield 808, 3) := by decide +kernel
theorem d_Model_invoke_4 : decode b_Model_invoke 4 = .ok (.bipush 40, 2) := by decide +kernel
theorem d_Model_invoke_6 : decode b_Model_invoke 6 = .ok (.if_icmp .ne 9, 3) := by decide +kernel
theorem d_Model_invoke_9 : decode b_Model_invoke 9 = .ok (.aload_n 0, 1) := by decide +kernel
theorem d_Model_invoke_10 : decode b_Model_invoke 10 = .ok (.iconst 5, 1) := by decide +kernel
theorem d_Model_invoke_11 : decode b_Model_invoke 11 = .ok (.putfield 802, 3) := by decide +kernel
theorem d_Model_invoke_14 : decode b_Model_invoke 14 = .ok (.return_, 1) := by decide +kernel
theorem d_Model_invoke_15 : decode b_Model_invoke 15 = .ok (.aload_n 0, 1) := by decide +kernel
theorem d_Model_invoke_16 : decode b_Model_invoke 16 = .ok (.getfield 39, 3) := by decide +kernel
theorem d_Model_invoke_19 : decode b_Model_invoke 19 = .ok (.iload_n 1, 1) := by decide +kernel
theorem d_Model_invoke_20 : decode b_Model_invoke 20 = .ok (.iaload, 1) := by decide +kernel
theorem d_Model_invoke_21 : decode b_Model_invoke 21 = .ok (.istore_n 3, 1) := by decide +kernel
theorem d_Model_invoke_22 : decode b_Model_invoke 22 = .ok (.bipush 12, 2) := by decide +kernel
theorem d_Model_invoke_24 : decode b_Model_invoke 24 = .ok (.aload_n 0, 1) := by decide +kernel
theorem d_Model_invoke_25 : decode b_Model_invoke 25 = .ok (.getfield 808, 3) := by decide +kernel
theorem d_Model_invoke_28 : decode b_Model_invoke 28 = .ok (.imul, 1) := by decide +kernel
theorem d_Model_invoke_29 : decode b_Model_invoke 29 = .ok (.istore 4, 2) := by decide +kernel
theorem d_Model_invoke_31 : decode b_Model_invoke 31 = .ok (.iconst 0, 1) := by decide +kernel
theorem d_Model_invoke_32 : decode b_Model_invoke 32 = .ok (.istore 5, 2) := by decide +kernel
theorem d_Model_invoke_34 : decode b_Model_invoke 34 = .ok (.iload 5, 2) := by decide +kernel
theorem d_Model_invoke_36 : decode b_Model_invoke 36 = .ok (.aload_n 0, 1) := by decide +kernel
theorem d_Model_invoke_37 : decode b_Model_invoke 37 = .ok (.getfield 27, 3) := by decide +kernel
theorem d_Model_invoke_40 : decode b_Model_invoke 40 = .ok (.iload_n 1, 1) := by decide +kernel
theorem d_Model_invoke_41 : decode b_Model_invoke 41 = .ok (.iaload, 1) := by decide +kernel
theorem d_Model_invoke_42 : decode b_Model_invoke 42 = .ok (.if_icmp .ge 34, 3) := by decide +kernel
theorem d_Model_invoke_45 : decode b_Model_invoke 45 = .ok (.aload_n 0, 1) := by decide +kernel
theorem d_Model_invoke_46 : decode b_Model_invoke 46 = .ok (.getfield 240, 3) := by decide +kernel
theorem d_Model_invoke_49 : decode b_Model_invoke 49 = .ok (.iload 4, 2) := by decide +kernel
theorem d_Model_invoke_51 : decode b_Model_invoke 51 = .ok (.iconst 1, 1) := by decide +kernel
theorem d_Model_invoke_52 : decode b_Model_invoke 52 = .ok (.iadd, 1) := by decide +kernel
theorem d_Model_invoke_53 : decode b_Model_invoke 53 = .ok (.iload 5, 2) := by decide +kernel
theorem d_Model_invoke_55 : decode b_Model_invoke 55 = .ok (.iadd, 1) := by decide +kernel
theorem d_Model_invoke_56 : decode b_Model_invoke 56 = .ok (.aload_n 0, 1) := by decide +kernel
theorem d_Model_invoke_57 : decode b_Model_invoke 57 = .ok (.aload_n 0, 1) := by decide +kernel
theorem d_Model_invoke_58 : decode b_Model_invoke 58 = .ok (.getfield 117, 3) := by decide +kernel
theorem d_Model_invoke_61 : decode b_Model_invoke 61 = .ok (.iload_n 2, 1) := by decide +kernel
theorem d_Model_invoke_62 : decode b_Model_invoke 62 = .ok (.iload 5, 2) := by decide +kernel
theorem d_Model_invoke_64 : decode b_Model_invoke 64 = .ok (.iadd, 1) := by decide +kernel
theorem d_Model_invoke_65 : decode b_Model_invoke 65 = .ok (.iaload, 1) := by decide +kernel
theorem d_Model_invoke_66 : decode b_Model_invoke 66 = .ok (.invokevirtual 893, 3) := by decide +kernel
theorem d_Model_invoke_69 : decode b_Model_invoke 69 = .ok (.iastore, 1) := by decide +kernel
theorem d_Model_invoke_70 : decode b_Model_invoke 70 = .ok (.iinc 5 1, 3) := by decide +kernel
theorem d_Model_invoke_73 : decode b_Model_invoke 73 = .ok (.goto (-39), 3) := by decide +kernel
theorem d_Model_invoke_76 : decode b_Model_invoke 76 = .ok (.aload_n 0, 1) := by decide +kernel
theorem d_Model_invoke_77 : decode b_Model_invoke 77 = .ok (.dup, 1) := by decide +kernel
theorem d_Model_invoke_78 : decode b_Model_invoke 78 = .ok (.getfield 799, 3) := by decide +kernel
theorem d_Model_invoke_81 : decode b_Model_invoke 81 = .ok (.iload_n 3, 1) := by decide +kernel
theorem d_Model_invoke_82 : decode b_Model_invoke 82 = .ok (.isub, 1) := by decide +kernel
theorem d_Model_invoke_83 : decode b_Model_invoke 83 = .ok (.putfield 799, 3) := by decide +kernel
theorem d_Model_invoke_86 : decode b_Model_invoke 86 = .ok (.iconst 0, 1) := by decide +kernel
theorem d_Model_invoke_87 : decode b_Model_invoke 87 = .ok (.istore 5, 2) := by decide +kernel
theorem d_Model_invoke_89 : decode b_Model_invoke 89 = .ok (.iload 5, 2) := by decide +kernel
theorem d_Model_invoke_91 : decode b_Model_invoke 91 = .ok (.iload_n 3, 1) := by decide +kernel
theorem d_Model_invoke_92 : decode b_Model_invoke 92 = .ok (.if_icmp .ge 117, 3) := by decide +kernel
theorem d_Model_invoke_95 : decode b_Model_invoke 95 = .ok (.aload_n 0, 1) := by decide +kernel
theorem d_Model_invoke_96 : decode b_Model_invoke 96 = .ok (.getfield 228, 3) := by decide +kernel
theorem d_Model_invoke_99 : decode b_Model_invoke 99 = .ok (.bipush 20, 2) := by decide +kernel
theorem d_Model_invoke_101 : decode b_Model_invoke 101 = .ok (.aload_n 0, 1) := by decide +kernel
theorem d_Model_invoke_102 : decode b_Model_invoke 102 = .ok (.getfield 808, 3) := by decide +kernel
theorem d_Model_invoke_105 : decode b_Model_invoke 105 = .ok (.imul, 1) := by decide +kernel
theorem d_Model_invoke_106 : decode b_Model_invoke 106 = .ok (.iload 5, 2) := by decide +kernel
theorem d_Model_invoke_108 : decode b_Model_invoke 108 = .ok (.iadd, 1) := by decide +kernel
theorem d_Model_invoke_109 : decode b_Model_invoke 109 = .ok (.aload_n 0, 1) := by decide +kernel
theorem d_Model_invoke_110 : decode b_Model_invoke 110 = .ok (.getfield 207, 3) := by decide +kernel
theorem d_Model_invoke_113 : decode b_Model_invoke 113 = .ok (.aload_n 0, 1) := by decide +kernel
theorem d_Model_invoke_114 : decode b_Model_invoke 114 = .ok (.getfield 799, 3) := by decide +kernel
theorem d_Model_invoke_117 : decode b_Model_invoke 117 = .ok (.iload 5, 2) := by decide +kernel
theorem d_Model_invoke_119 : decode b_Model_invoke 119 = .ok (.iadd, 1) := by decide +kernel
theorem d_Model_invoke_120 : decode b_Model_invoke 120 = .ok (.iaload, 1) := by decide +kernel
theorem d_Model_invoke_121 : decode b_Model_invoke 121 = .ok (.iastore, 1) := by decide +kernel
theorem d_Model_invoke_122 : decode b_Model_invoke 122 = .ok (.aload_n 0, 1) := by decide +kernel
theorem d_Model_invoke_123 : decode b_Model_invoke 123 = .ok (.getfield 231, 3) := by decide +kernel
theorem d_Model_invoke_126 : decode b_Model_invoke 126 = .ok (.bipush 20, 2) := by decide +kernel
theorem d_Model_invoke_128 : decode b_Model_invoke 128 = .ok (.aload_n 0, 1) := by decide +kernel
theorem d_Model_invoke_129 : decode b_Model_invoke 129 = .ok (.getfield 808, 3) := by decide +kernel
theorem d_Model_invoke_132 : decode b_Model_invoke 132 = .ok (.imul, 1) := by decide +kernel
theorem d_Model_invoke_133 : decode b_Model_invoke 133 = .ok (.iload 5, 2) := by decide +kernel
theorem d_Model_invoke_135 : decode b_Model_invoke 135 = .ok (.iadd, 1) := by decide +kernel
theorem d_Model_invoke_136 : decode b_Model_invoke 136 = .ok (.aload_n 0, 1) := by decide +kernel
theorem d_Model_invoke_137 : decode b_Model_invoke 137 = .ok (.getfield 210, 3) := by decide +kernel
theorem d_Model_invoke_140 : decode b_Model_invoke 140 = .ok (.aload_n 0, 1) := by decide +kernel
theorem d_Model_invoke_141 : decode b_Model_invoke 141 = .ok (.getfield 799, 3) := by decide +kernel
theorem d_Model_invoke_144 : decode b_Model_invoke 144 = .ok (.iload 5, 2) := by decide +kernel
theorem d_Model_invoke_146 : decode b_Model_invoke 146 = .ok (.iadd, 1) := by decide +kernel
theorem d_Model_invoke_147 : decode b_Model_invoke 147 = .ok (.iaload, 1) := by decide +kernel
theorem d_Model_invoke_148 : decode b_Model_invoke 148 = .ok (.iastore, 1) := by decide +kernel
theorem d_Model_invoke_149 : decode b_Model_invoke 149 = .ok (.aload_n 0, 1) := by decide +kernel
theorem d_Model_invoke_150 : decode b_Model_invoke 150 = .ok (.getfield 234, 3) := by decide +kernel
theorem d_Model_invoke_153 : decode b_Model_invoke 153 = .ok (.bipush 20, 2) := by decide +kernel
theorem d_Model_invoke_155 : decode b_Model_invoke 155 = .ok (.aload_n 0, 1) := by decide +kernel
theorem d_Model_invoke_156 : decode b_Model_invoke 156 = .ok (.getfield 808, 3) := by decide +kernel
theorem d_Model_invoke_159 : decode b_Model_invoke 159 = .ok (.imul, 1) := by decide +kernel
theorem d_Model_invoke_160 : decode b_Model_invoke 160 = .ok (.iload 5, 2) := by decide +kernel
theorem d_Model_invoke_162 : decode b_Model_invoke 162 = .ok (.iadd, 1) := by decide +kernel
theorem d_Model_invoke_163 : decode b_Model_invoke 163 = .ok (.aload_n 0, 1) := by decide +kernel
theorem d_Model_invoke_164 : decode b_Model_invoke 164 = .ok (.getfield 213, 3) := by decide +kernel
theorem d_Model_invoke_167 : decode b_Model_invoke 167 = .ok (.aload_n 0, 1) := by decide +kernel
theorem d_Model_invoke_168 : decode b_Model_invoke 168 = .ok (.getfield 799, 3) := by decide +kernel
theorem d_Model_invoke_171 : decode b_Model_invoke 171 = .ok (.iload 5, 2) := by decide +kernel
theorem d_Model_invoke_173 : decode b_Model_invoke 173 = .ok (.iadd, 1) := by decide +kernel
theorem d_Model_invoke_174 : decode b_Model_invoke 174 = .ok (.iaload, 1) := by decide +kernel
theorem d_Model_invoke_175 : decode b_Model_invoke 175 = .ok (.iastore, 1) := by decide +kernel
theorem d_Model_invoke_176 : decode b_Model_invoke 176 = .ok (.aload_n 0, 1) := by decide +kernel
theorem d_Model_invoke_177 : decode b_Model_invoke 177 = .ok (.getfield 237, 3) := by decide +kernel
theorem d_Model_invoke_180 : decode b_Model_invoke 180 = .ok (.bipush 20, 2) := by decide +kernel
theorem d_Model_invoke_182 : decode b_Model_invoke 182 = .ok (.aload_n 0, 1) := by decide +kernel
theorem d_Model_invoke_183 : decode b_Model_invoke 183 = .ok (.getfield 808, 3) := by decide +kernel
theorem d_Model_invoke_186 : decode b_Model_invoke 186 = .ok (.imul, 1) := by decide +kernel
theorem d_Model_invoke_187 : decode b_Model_invoke 187 = .ok (.iload 5, 2) := by decide +kernel
theorem d_Model_invoke_189 : decode b_Model_invoke 189 = .ok (.iadd, 1) := by decide +kernel
theorem d_Model_invoke_190 : decode b_Model_invoke 190 = .ok (.aload_n 0, 1) := by decide +kernel
theorem d_Model_invoke_191 : decode b_Model_invoke 191 = .ok (.getfield 216, 3) := by decide +kernel
theorem d_Model_invoke_194 : decode b_Model_invoke 194 = .ok (.aload_n 0, 1) := by decide +kernel
theorem d_Model_invoke_195 : decode b_Model_invoke 195 = .ok (.getfield 799, 3) := by decide +kernel
theorem d_Model_invoke_198 : decode b_Model_invoke 198 = .ok (.iload 5, 2) := by decide +kernel
theorem d_Model_invoke_200 : decode b_Model_invoke 200 = .ok (.iadd, 1) := by decide +kernel
theorem d_Model_invoke_201 : decode b_Model_invoke 201 = .ok (.iaload, 1) := by decide +kernel
theorem d_Model_invoke_202 : decode b_Model_invoke 202 = .ok (.iastore, 1) := by decide +kernel
theorem d_Model_invoke_203 : decode b_Model_invoke 203 = .ok (.iinc 5 1, 3) := by decide +kernel
theorem d_Model_invoke_206 : decode b_Model_invoke 206 = .ok (.goto (-117), 3) := by decide +kernel
theorem d_Model_invoke_209 : decode b_Model_invoke 209 = .ok (.aload_n 0, 1) := by decide +kernel
theorem d_Model_invoke_210 : decode b_Model_invoke 210 = .ok (.getfield 219, 3) := by decide +kernel
theorem fl_Model_219 : Cond.fieldLink R_Model 219 "PointerHouseModel" "backTo" "[I" ∈ lw_good := lg_right (i := 1933) (by decide +kernel) rfl
theorem d_Model_invoke_213 : decode b_Model_invoke 213 = .ok (.aload_n 0, 1) := by decide +kernel
theorem d_Model_invoke_214 : decode b_Model_invoke 214 = .ok (.getfield 808, 3) := by decide +kernel
theorem d_Model_invoke_217 : decode b_Model_invoke 217 = .ok (.aload_n 0, 1) := by decide +kernel
theorem d_Model_invoke_218 : decode b_Model_invoke 218 = .ok (.getfield 863, 3) := by decide +kernel
theorem d_Model_invoke_221 : decode b_Model_invoke 221 = .ok (.iastore, 1) := by decide +kernel
theorem d_Model_invoke_222 : decode b_Model_invoke 222 = .ok (.aload_n 0, 1) := by decide +kernel
theorem d_Model_invoke_223 : decode b_Model_invoke 223 = .ok (.getfield 225, 3) := by decide +kernel
theorem fl_Model_225 : Cond.fieldLink R_Model 225 "PointerHouseModel" "firstRegion" "[I" ∈ lw_good := lg_right (i := 1935) (by decide +kernel) rfl
theorem d_Model_invoke_226 : decode b_Model_invoke 226 = .ok (.aload_n 0, 1) := by decide +kernel
theorem d_Model_invoke_227 : decode b_Model_invoke 227 = .ok (.getfield 808, 3) := by decide +kernel
theorem d_Model_invoke_230 : decode b_Model_invoke 230 = .ok (.aload_n 0, 1) := by decide +kernel
theorem d_Model_invoke_231 : decode b_Model_invoke 231 = .ok (.getfield 826, 3) := by decide +kernel
theorem d_Model_invoke_234 : decode b_Model_invoke 234 = .ok (.iastore, 1) := by decide +kernel
theorem d_Model_invoke_235 : decode b_Model_invoke 235 = .ok (.aload_n 0, 1) := by decide +kernel
theorem d_Model_invoke_236 : decode b_Model_invoke 236 = .ok (.dup, 1) := by decide +kernel
theorem d_Model_invoke_237 : decode b_Model_invoke 237 = .ok (.getfield 808, 3) := by decide +kernel
theorem d_Model_invoke_240 : decode b_Model_invoke 240 = .ok (.iconst 1, 1) := by decide +kernel
theorem d_Model_invoke_241 : decode b_Model_invoke 241 = .ok (.iadd, 1) := by decide +kernel
theorem d_Model_invoke_242 : decode b_Model_invoke 242 = .ok (.putfield 808, 3) := by decide +kernel
theorem d_Model_invoke_245 : decode b_Model_invoke 245 = .ok (.aload_n 0, 1) := by decide +kernel
theorem d_Model_invoke_246 : decode b_Model_invoke 246 = .ok (.aload_n 0, 1) := by decide +kernel
theorem d_Model_invoke_247 : decode b_Model_invoke 247 = .ok (.getfield 87, 3) := by decide +kernel
theorem d_Model_invoke_250 : decode b_Model_invoke 250 = .ok (.iload_n 1, 1) := by decide +kernel
theorem d_Model_invoke_251 : decode b_Model_invoke 251 = .ok (.iaload, 1) := by decide +kernel
theorem d_Model_invoke_252 : decode b_Model_invoke 252 = .ok (.putfield 863, 3) := by decide +kernel
theorem d_Model_invoke_255 : decode b_Model_invoke 255 = .ok (.return_, 1) := by decide +kernel
abbrev b_Model_reckon : ByteArray := prog_14_method_127_code
abbrev y_Model_reckon : MethodName := ⟨R_Model, "reckon", "(II)V"⟩
theorem co_Model_reckon : Cond.code y_Model_reckon b_Model_reckon 6 none ∈ lw_good := lg_in (tin_12 _ (List.mem_of_getElem? (i := 174) rfl)) rfl
abbrev w_Model_reckon : List Cond := Cond.code y_Model_reckon b_Model_reckon 6 none :: lw_good
theorem im_Model_reckon : Cond.instanceMethod y_Model_reckon ∈ lw_good := lg_right (i := 2813) (by decide +kernel) rfl
theorem se_Model_reckon : Cond.selects R_Model y_Model_reckon y_Model_reckon ∈ lw_good := lg_left (i := 227) (by decide +kernel) rfl
theorem d_Model_reckon_0 : decode b_Model_reckon 0 = .ok (.aload_n 0, 1) := by decide +kernel
theorem d_Model_reckon_1 : decode b_Model_reckon 1 = .ok (.dup, 1) := by decide +kernel
theorem d_Model_reckon_2 : decode b_Model_reckon 2 = .ok (.getfield 799, 3) := by decide +kernel
theorem d_Model_reckon_5 : decode b_Model_reckon 5 = .ok (.iconst 1, 1) := by decide +kernel
theorem d_Model_reckon_6 : decode b_Model_reckon 6 = .ok (.isub, 1) := by decide +kernel
theorem d_Model_reckon_7 : decode b_Model_reckon 7 = .ok (.putfield 799, 3) := by decide +kernel
theorem d_Model_reckon_10 : decode b_Model_reckon 10 = .ok (.aload_n 0, 1) := by decide +kernel
theorem d_Model_reckon_11 : decode b_Model_reckon 11 = .ok (.getfield 799, 3) := by decide +kernel
theorem d_Model_reckon_14 : decode b_Model_reckon 14 = .ok (.iconst 1, 1) := by decide +kernel
theorem d_Model_reckon_15 : decode b_Model_reckon 15 = .ok (.isub, 1) := by decide +kernel
theorem d_Model_reckon_16 : decode b_Model_reckon 16 = .ok (.istore_n 3, 1) := by decide +kernel
theorem d_Model_reckon_17 : decode b_Model_reckon 17 = .ok (.aload_n 0, 1) := by decide +kernel
theorem d_Model_reckon_18 : decode b_Model_reckon 18 = .ok (.getfield 207, 3) := by decide +kernel
theorem d_Model_reckon_21 : decode b_Model_reckon 21 = .ok (.aload_n 0, 1) := by decide +kernel
theorem d_Model_reckon_22 : decode b_Model_reckon 22 = .ok (.getfield 799, 3) := by decide +kernel
theorem d_Model_reckon_25 : decode b_Model_reckon 25 = .ok (.iaload, 1) := by decide +kernel
theorem d_Model_reckon_26 : decode b_Model_reckon 26 = .ok (.istore 4, 2) := by decide +kernel
theorem d_Model_reckon_28 : decode b_Model_reckon 28 = .ok (.iload_n 1, 1) := by decide +kernel
theorem d_Model_reckon_29 : decode b_Model_reckon 29 = .ok (.bipush 20, 2) := by decide +kernel
theorem d_Model_reckon_31 : decode b_Model_reckon 31 = .ok (.if_icmp .ne 15, 3) := by decide +kernel
theorem d_Model_reckon_34 : decode b_Model_reckon 34 = .ok (.aload_n 0, 1) := by decide +kernel
theorem d_Model_reckon_35 : decode b_Model_reckon 35 = .ok (.getfield 207, 3) := by decide +kernel
theorem d_Model_reckon_38 : decode b_Model_reckon 38 = .ok (.iload_n 3, 1) := by decide +kernel
theorem d_Model_reckon_39 : decode b_Model_reckon 39 = .ok (.dup2, 1) := by decide +kernel
theorem d_Model_reckon_40 : decode b_Model_reckon 40 = .ok (.iaload, 1) := by decide +kernel
theorem d_Model_reckon_41 : decode b_Model_reckon 41 = .ok (.iload 4, 2) := by decide +kernel
theorem d_Model_reckon_43 : decode b_Model_reckon 43 = .ok (.iadd, 1) := by decide +kernel
theorem d_Model_reckon_44 : decode b_Model_reckon 44 = .ok (.iastore, 1) := by decide +kernel
theorem d_Model_reckon_45 : decode b_Model_reckon 45 = .ok (.return_, 1) := by decide +kernel
theorem d_Model_reckon_46 : decode b_Model_reckon 46 = .ok (.iload_n 1, 1) := by decide +kernel
theorem d_Model_reckon_47 : decode b_Model_reckon 47 = .ok (.bipush 21, 2) := by decide +kernel
theorem d_Model_reckon_49 : decode b_Model_reckon 49 = .ok (.if_icmp .ne 98, 3) := by decide +kernel
theorem d_Model_reckon_52 : decode b_Model_reckon 52 = .ok (.aload_n 0, 1) := by decide +kernel
theorem d_Model_reckon_53 : decode b_Model_reckon 53 = .ok (.getfield 210, 3) := by decide +kernel
theorem d_Model_reckon_56 : decode b_Model_reckon 56 = .ok (.iload_n 3, 1) := by decide +kernel
theorem d_Model_reckon_57 : decode b_Model_reckon 57 = .ok (.iaload, 1) := by decide +kernel
theorem d_Model_reckon_58 : decode b_Model_reckon 58 = .ok (.aload_n 0, 1) := by decide +kernel
theorem d_Model_reckon_59 : decode b_Model_reckon 59 = .ok (.getfield 210, 3) := by decide +kernel
theorem d_Model_reckon_62 : decode b_Model_reckon 62 = .ok (.aload_n 0, 1) := by decide +kernel
theorem d_Model_reckon_63 : decode b_Model_reckon 63 = .ok (.getfield 799, 3) := by decide +kernel
theorem d_Model_reckon_66 : decode b_Model_reckon 66 = .ok (.iaload, 1) := by decide +kernel
theorem d_Model_reckon_67 : decode b_Model_reckon 67 = .ok (.if_icmp .ne 53, 3) := by decide +kernel
theorem d_Model_reckon_70 : decode b_Model_reckon 70 = .ok (.aload_n 0, 1) := by decide +kernel
theorem d_Model_reckon_71 : decode b_Model_reckon 71 = .ok (.getfield 210, 3) := by decide +kernel
theorem d_Model_reckon_74 : decode b_Model_reckon 74 = .ok (.iload_n 3, 1) := by decide +kernel
theorem d_Model_reckon_75 : decode b_Model_reckon 75 = .ok (.iaload, 1) := by decide +kernel
theorem d_Model_reckon_76 : decode b_Model_reckon 76 = .ok (.iconst (-1), 1) := by decide +kernel
theorem d_Model_reckon_77 : decode b_Model_reckon 77 = .ok (.if_icmp .eq 39, 3) := by decide +kernel
theorem d_Model_reckon_80 : decode b_Model_reckon 80 = .ok (.aload_n 0, 1) := by decide +kernel
theorem d_Model_reckon_81 : decode b_Model_reckon 81 = .ok (.getfield 207, 3) := by decide +kernel
theorem d_Model_reckon_84 : decode b_Model_reckon 84 = .ok (.iload_n 3, 1) := by decide +kernel
theorem d_Model_reckon_85 : decode b_Model_reckon 85 = .ok (.iaload, 1) := by decide +kernel
theorem d_Model_reckon_86 : decode b_Model_reckon 86 = .ok (.aload_n 0, 1) := by decide +kernel
theorem d_Model_reckon_87 : decode b_Model_reckon 87 = .ok (.getfield 207, 3) := by decide +kernel
theorem d_Model_reckon_90 : decode b_Model_reckon 90 = .ok (.aload_n 0, 1) := by decide +kernel
theorem d_Model_reckon_91 : decode b_Model_reckon 91 = .ok (.getfield 799, 3) := by decide +kernel
theorem d_Model_reckon_94 : decode b_Model_reckon 94 = .ok (.iaload, 1) := by decide +kernel
theorem d_Model_reckon_95 : decode b_Model_reckon 95 = .ok (.if_icmp .ne 25, 3) := by decide +kernel
theorem d_Model_reckon_98 : decode b_Model_reckon 98 = .ok (.aload_n 0, 1) := by decide +kernel
theorem d_Model_reckon_99 : decode b_Model_reckon 99 = .ok (.getfield 213, 3) := by decide +kernel
theorem d_Model_reckon_102 : decode b_Model_reckon 102 = .ok (.iload_n 3, 1) := by decide +kernel
theorem d_Model_reckon_103 : decode b_Model_reckon 103 = .ok (.iaload, 1) := by decide +kernel
theorem d_Model_reckon_104 : decode b_Model_reckon 104 = .ok (.aload_n 0, 1) := by decide +kernel
theorem d_Model_reckon_105 : decode b_Model_reckon 105 = .ok (.getfield 213, 3) := by decide +kernel
theorem d_Model_reckon_108 : decode b_Model_reckon 108 = .ok (.aload_n 0, 1) := by decide +kernel
theorem d_Model_reckon_109 : decode b_Model_reckon 109 = .ok (.getfield 799, 3) := by decide +kernel
theorem d_Model_reckon_112 : decode b_Model_reckon 112 = .ok (.iaload, 1) := by decide +kernel
theorem d_Model_reckon_113 : decode b_Model_reckon 113 = .ok (.if_icmp .ne 7, 3) := by decide +kernel
theorem d_Model_reckon_116 : decode b_Model_reckon 116 = .ok (.iconst 1, 1) := by decide +kernel
theorem d_Model_reckon_117 : decode b_Model_reckon 117 = .ok (.goto 4, 3) := by decide +kernel
theorem d_Model_reckon_120 : decode b_Model_reckon 120 = .ok (.iconst 0, 1) := by decide +kernel
theorem d_Model_reckon_121 : decode b_Model_reckon 121 = .ok (.istore 5, 2) := by decide +kernel
theorem d_Model_reckon_123 : decode b_Model_reckon 123 = .ok (.aload_n 0, 1) := by decide +kernel
theorem d_Model_reckon_124 : decode b_Model_reckon 124 = .ok (.getfield 207, 3) := by decide +kernel
theorem d_Model_reckon_127 : decode b_Model_reckon 127 = .ok (.iload_n 3, 1) := by decide +kernel
theorem d_Model_reckon_128 : decode b_Model_reckon 128 = .ok (.iload 5, 2) := by decide +kernel
theorem d_Model_reckon_130 : decode b_Model_reckon 130 = .ok (.ifCond .eq 7, 3) := by decide +kernel
theorem d_Model_reckon_133 : decode b_Model_reckon 133 = .ok (.iconst 1, 1) := by decide +kernel
theorem d_Model_reckon_134 : decode b_Model_reckon 134 = .ok (.goto 4, 3) := by decide +kernel
theorem d_Model_reckon_137 : decode b_Model_reckon 137 = .ok (.iconst 0, 1) := by decide +kernel
theorem d_Model_reckon_138 : decode b_Model_reckon 138 = .ok (.iastore, 1) := by decide +kernel
theorem d_Model_reckon_139 : decode b_Model_reckon 139 = .ok (.aload_n 0, 1) := by decide +kernel
theorem d_Model_reckon_140 : decode b_Model_reckon 140 = .ok (.getfield 210, 3) := by decide +kernel
theorem d_Model_reckon_143 : decode b_Model_reckon 143 = .ok (.iload_n 3, 1) := by decide +kernel
theorem d_Model_reckon_144 : decode b_Model_reckon 144 = .ok (.iconst (-1), 1) := by decide +kernel
theorem d_Model_reckon_145 : decode b_Model_reckon 145 = .ok (.iastore, 1) := by decide +kernel
theorem d_Model_reckon_146 : decode b_Model_reckon 146 = .ok (.return_, 1) := by decide +kernel
theorem d_Model_reckon_147 : decode b_Model_reckon 147 = .ok (.iload_n 2, 1) := by decide +kernel
theorem d_Model_reckon_148 : decode b_Model_reckon 148 = .ok (.bipush 47, 2) := by decide +kernel
theorem d_Model_reckon_150 : decode b_Model_reckon 150 = .ok (.if_icmp .eq 9, 3) := by decide +kernel
theorem d_Model_reckon_153 : decode b_Model_reckon 153 = .ok (.iload_n 2, 1) := by decide +kernel
theorem d_Model_reckon_154 : decode b_Model_reckon 154 = .ok (.bipush 37, 2) := by decide +kernel
theorem d_Model_reckon_156 : decode b_Model_reckon 156 = .ok (.if_icmp .ne 14, 3) := by decide +kernel
theorem d_Model_reckon_159 : decode b_Model_reckon 159 = .ok (.iload 4, 2) := by decide +kernel
theorem d_Model_reckon_161 : decode b_Model_reckon 161 = .ok (.ifCond .ne 9, 3) := by decide +kernel
theorem d_Model_reckon_164 : decode b_Model_reckon 164 = .ok (.aload_n 0, 1) := by decide +kernel
theorem d_Model_reckon_165 : decode b_Model_reckon 165 = .ok (.iconst 4, 1) := by decide +kernel
theorem d_Model_reckon_166 : decode b_Model_reckon 166 = .ok (.invokevirtual 847, 3) := by decide +kernel
theorem d_Model_reckon_169 : decode b_Model_reckon 169 = .ok (.return_, 1) := by decide +kernel
theorem d_Model_reckon_170 : decode b_Model_reckon 170 = .ok (.aload_n 0, 1) := by decide +kernel
theorem d_Model_reckon_171 : decode b_Model_reckon 171 = .ok (.getfield 207, 3) := by decide +kernel
theorem d_Model_reckon_174 : decode b_Model_reckon 174 = .ok (.iload_n 3, 1) := by decide +kernel
theorem d_Model_reckon_175 : decode b_Model_reckon 175 = .ok (.iaload, 1) := by decide +kernel
theorem d_Model_reckon_176 : decode b_Model_reckon 176 = .ok (.istore 5, 2) := by decide +kernel
theorem d_Model_reckon_178 : decode b_Model_reckon 178 = .ok (.aload_n 0, 1) := by decide +kernel
theorem d_Model_reckon_179 : decode b_Model_reckon 179 = .ok (.getfield 207, 3) := by decide +kernel
theorem d_Model_reckon_182 : decode b_Model_reckon 182 = .ok (.iload_n 3, 1) := by decide +kernel
theorem d_Model_reckon_183 : decode b_Model_reckon 183 = .ok (.iload_n 2, 1) := by decide +kernel
theorem d_Model_reckon_184 : decode b_Model_reckon 184 = .ok (.bipush 43, 2) := by decide +kernel
theorem d_Model_reckon_186 : decode b_Model_reckon 186 = .ok (.if_icmp .ne 11, 3) := by decide +kernel
theorem d_Model_reckon_189 : decode b_Model_reckon 189 = .ok (.iload 5, 2) := by decide +kernel
theorem d_Model_reckon_191 : decode b_Model_reckon 191 = .ok (.iload 4, 2) := by decide +kernel
theorem d_Model_reckon_193 : decode b_Model_reckon 193 = .ok (.iadd, 1) := by decide +kernel
theorem d_Model_reckon_194 : decode b_Model_reckon 194 = .ok (.goto 92, 3) := by decide +kernel
theorem d_Model_reckon_197 : decode b_Model_reckon 197 = .ok (.iload_n 2, 1) := by decide +kernel
theorem d_Model_reckon_198 : decode b_Model_reckon 198 = .ok (.bipush 45, 2) := by decide +kernel
theorem d_Model_reckon_200 : decode b_Model_reckon 200 = .ok (.if_icmp .ne 11, 3) := by decide +kernel
theorem d_Model_reckon_203 : decode b_Model_reckon 203 = .ok (.iload 5, 2) := by decide +kernel
theorem d_Model_reckon_205 : decode b_Model_reckon 205 = .ok (.iload 4, 2) := by decide +kernel
theorem d_Model_reckon_207 : decode b_Model_reckon 207 = .ok (.isub, 1) := by decide +kernel
theorem d_Model_reckon_208 : decode b_Model_reckon 208 = .ok (.goto 78, 3) := by decide +kernel
theorem d_Model_reckon_211 : decode b_Model_reckon 211 = .ok (.iload_n 2, 1) := by decide +kernel
theorem d_Model_reckon_212 : decode b_Model_reckon 212 = .ok (.bipush 42, 2) := by decide +kernel
theorem d_Model_reckon_214 : decode b_Model_reckon 214 = .ok (.if_icmp .ne 11, 3) := by decide +kernel
theorem d_Model_reckon_217 : decode b_Model_reckon 217 = .ok (.iload 5, 2) := by decide +kernel
theorem d_Model_reckon_219 : decode b_Model_reckon 219 = .ok (.iload 4, 2) := by decide +kernel
theorem d_Model_reckon_221 : decode b_Model_reckon 221 = .ok (.imul, 1) := by decide +kernel
theorem d_Model_reckon_222 : decode b_Model_reckon 222 = .ok (.goto 64, 3) := by decide +kernel
theorem d_Model_reckon_225 : decode b_Model_reckon 225 = .ok (.iload_n 2, 1) := by decide +kernel
theorem d_Model_reckon_226 : decode b_Model_reckon 226 = .ok (.bipush 47, 2) := by decide +kernel
theorem d_Model_reckon_228 : decode b_Model_reckon 228 = .ok (.if_icmp .ne 11, 3) := by decide +kernel
theorem d_Model_reckon_231 : decode b_Model_reckon 231 = .ok (.iload 5, 2) := by decide +kernel
theorem d_Model_reckon_233 : decode b_Model_reckon 233 = .ok (.iload 4, 2) := by decide +kernel
theorem d_Model_reckon_235 : decode b_Model_reckon 235 = .ok (.idiv, 1) := by decide +kernel
theorem d_Model_reckon_236 : decode b_Model_reckon 236 = .ok (.goto 50, 3) := by decide +kernel
theorem d_Model_reckon_239 : decode b_Model_reckon 239 = .ok (.iload_n 2, 1) := by decide +kernel
theorem d_Model_reckon_240 : decode b_Model_reckon 240 = .ok (.bipush 37, 2) := by decide +kernel
theorem d_Model_reckon_242 : decode b_Model_reckon 242 = .ok (.if_icmp .ne 11, 3) := by decide +kernel
theorem d_Model_reckon_245 : decode b_Model_reckon 245 = .ok (.iload 5, 2) := by decide +kernel
theorem d_Model_reckon_247 : decode b_Model_reckon 247 = .ok (.iload 4, 2) := by decide +kernel
theorem d_Model_reckon_249 : decode b_Model_reckon 249 = .ok (.irem, 1) := by decide +kernel
theorem d_Model_reckon_250 : decode b_Model_reckon 250 = .ok (.goto 36, 3) := by decide +kernel
theorem d_Model_reckon_253 : decode b_Model_reckon 253 = .ok (.iload_n 2, 1) := by decide +kernel
theorem d_Model_reckon_254 : decode b_Model_reckon 254 = .ok (.bipush 60, 2) := by decide +kernel
theorem d_Model_reckon_256 : decode b_Model_reckon 256 = .ok (.if_icmp .ne 18, 3) := by decide +kernel
theorem d_Model_reckon_259 : decode b_Model_reckon 259 = .ok (.iload 5, 2) := by decide +kernel
theorem d_Model_reckon_261 : decode b_Model_reckon 261 = .ok (.iload 4, 2) := by decide +kernel
theorem d_Model_reckon_263 : decode b_Model_reckon 263 = .ok (.if_icmp .ge 7, 3) := by decide +kernel
theorem d_Model_reckon_266 : decode b_Model_reckon 266 = .ok (.iconst 1, 1) := by decide +kernel
theorem d_Model_reckon_267 : decode b_Model_reckon 267 = .ok (.goto 19, 3) := by decide +kernel
theorem d_Model_reckon_270 : decode b_Model_reckon 270 = .ok (.iconst 0, 1) := by decide +kernel
theorem d_Model_reckon_271 : decode b_Model_reckon 271 = .ok (.goto 15, 3) := by decide +kernel
theorem d_Model_reckon_274 : decode b_Model_reckon 274 = .ok (.iload 5, 2) := by decide +kernel
theorem d_Model_reckon_276 : decode b_Model_reckon 276 = .ok (.iload 4, 2) := by decide +kernel
theorem d_Model_reckon_278 : decode b_Model_reckon 278 = .ok (.if_icmp .ne 7, 3) := by decide +kernel
theorem d_Model_reckon_281 : decode b_Model_reckon 281 = .ok (.iconst 1, 1) := by decide +kernel
theorem d_Model_reckon_282 : decode b_Model_reckon 282 = .ok (.goto 4, 3) := by decide +kernel
theorem d_Model_reckon_285 : decode b_Model_reckon 285 = .ok (.iconst 0, 1) := by decide +kernel
theorem d_Model_reckon_286 : decode b_Model_reckon 286 = .ok (.iastore, 1) := by decide +kernel
theorem d_Model_reckon_287 : decode b_Model_reckon 287 = .ok (.return_, 1) := by decide +kernel
abbrev b_Model_back : ByteArray := prog_14_method_124_code
abbrev y_Model_back : MethodName := ⟨R_Model, "back", "()V"⟩
theorem co_Model_back : Cond.code y_Model_back b_Model_back 1 none ∈ lw_good := lg_in (tin_12 _ (List.mem_of_getElem? (i := 142) rfl)) rfl
abbrev w_Model_back : List Cond := Cond.code y_Model_back b_Model_back 1 none :: lw_good
theorem im_Model_back : Cond.instanceMethod y_Model_back ∈ lw_good := lg_right (i := 2781) (by decide +kernel) rfl
theorem se_Model_back : Cond.selects R_Model y_Model_back y_Model_back ∈ lw_good := lg_left (i := 219) (by decide +kernel) rfl
theorem d_Model_back_0 : decode b_Model_back 0 = .ok (.aload_n 0, 1) := by decide +kernel
theorem d_Model_back_1 : decode b_Model_back 1 = .ok (.dup, 1) := by decide +kernel
theorem d_Model_back_2 : decode b_Model_back 2 = .ok (.getfield 808, 3) := by decide +kernel
theorem d_Model_back_5 : decode b_Model_back 5 = .ok (.iconst 1, 1) := by decide +kernel
theorem d_Model_back_6 : decode b_Model_back 6 = .ok (.isub, 1) := by decide +kernel
theorem d_Model_back_7 : decode b_Model_back 7 = .ok (.putfield 808, 3) := by decide +kernel
theorem d_Model_back_10 : decode b_Model_back 10 = .ok (.aload_n 0, 1) := by decide +kernel
theorem d_Model_back_11 : decode b_Model_back 11 = .ok (.getfield 832, 3) := by decide +kernel
theorem d_Model_back_14 : decode b_Model_back 14 = .ok (.ifCond .le 34, 3) := by decide +kernel
theorem d_Model_back_17 : decode b_Model_back 17 = .ok (.aload_n 0, 1) := by decide +kernel
theorem d_Model_back_18 : decode b_Model_back 18 = .ok (.getfield 249, 3) := by decide +kernel
theorem d_Model_back_21 : decode b_Model_back 21 = .ok (.aload_n 0, 1) := by decide +kernel
theorem d_Model_back_22 : decode b_Model_back 22 = .ok (.getfield 832, 3) := by decide +kernel
theorem d_Model_back_25 : decode b_Model_back 25 = .ok (.iconst 1, 1) := by decide +kernel
theorem d_Model_back_26 : decode b_Model_back 26 = .ok (.isub, 1) := by decide +kernel
theorem d_Model_back_27 : decode b_Model_back 27 = .ok (.iaload, 1) := by decide +kernel
theorem d_Model_back_28 : decode b_Model_back 28 = .ok (.aload_n 0, 1) := by decide +kernel
theorem d_Model_back_29 : decode b_Model_back 29 = .ok (.getfield 808, 3) := by decide +kernel
theorem d_Model_back_32 : decode b_Model_back 32 = .ok (.if_icmp .le 16, 3) := by decide +kernel
theorem d_Model_back_35 : decode b_Model_back 35 = .ok (.aload_n 0, 1) := by decide +kernel
theorem d_Model_back_36 : decode b_Model_back 36 = .ok (.dup, 1) := by decide +kernel
theorem d_Model_back_37 : decode b_Model_back 37 = .ok (.getfield 832, 3) := by decide +kernel
theorem d_Model_back_40 : decode b_Model_back 40 = .ok (.iconst 1, 1) := by decide +kernel
theorem d_Model_back_41 : decode b_Model_back 41 = .ok (.isub, 1) := by decide +kernel
theorem d_Model_back_42 : decode b_Model_back 42 = .ok (.putfield 832, 3) := by decide +kernel
theorem d_Model_back_45 : decode b_Model_back 45 = .ok (.goto (-35), 3) := by decide +kernel
theorem d_Model_back_48 : decode b_Model_back 48 = .ok (.aload_n 0, 1) := by decide +kernel
theorem d_Model_back_49 : decode b_Model_back 49 = .ok (.aload_n 0, 1) := by decide +kernel
theorem d_Model_back_50 : decode b_Model_back 50 = .ok (.getfield 225, 3) := by decide +kernel
theorem d_Model_back_53 : decode b_Model_back 53 = .ok (.aload_n 0, 1) := by decide +kernel
theorem d_Model_back_54 : decode b_Model_back 54 = .ok (.getfield 808, 3) := by decide +kernel
theorem d_Model_back_57 : decode b_Model_back 57 = .ok (.iaload, 1) := by decide +kernel
theorem d_Model_back_58 : decode b_Model_back 58 = .ok (.invokevirtual 860, 3) := by decide +kernel
theorem d_Model_back_61 : decode b_Model_back 61 = .ok (.aload_n 0, 1) := by decide +kernel
theorem d_Model_back_62 : decode b_Model_back 62 = .ok (.getfield 808, 3) := by decide +kernel
theorem d_Model_back_65 : decode b_Model_back 65 = .ok (.ifCond .ne 9, 3) := by decide +kernel
theorem d_Model_back_68 : decode b_Model_back 68 = .ok (.aload_n 0, 1) := by decide +kernel
theorem d_Model_back_69 : decode b_Model_back 69 = .ok (.iconst 2, 1) := by decide +kernel
theorem d_Model_back_70 : decode b_Model_back 70 = .ok (.putfield 802, 3) := by decide +kernel
theorem d_Model_back_73 : decode b_Model_back 73 = .ok (.return_, 1) := by decide +kernel
theorem d_Model_back_74 : decode b_Model_back 74 = .ok (.aload_n 0, 1) := by decide +kernel
theorem d_Model_back_75 : decode b_Model_back 75 = .ok (.aload_n 0, 1) := by decide +kernel
theorem d_Model_back_76 : decode b_Model_back 76 = .ok (.getfield 219, 3) := by decide +kernel
theorem d_Model_back_79 : decode b_Model_back 79 = .ok (.aload_n 0, 1) := by decide +kernel
theorem d_Model_back_80 : decode b_Model_back 80 = .ok (.getfield 808, 3) := by decide +kernel
theorem d_Model_back_83 : decode b_Model_back 83 = .ok (.iaload, 1) := by decide +kernel
theorem d_Model_back_84 : decode b_Model_back 84 = .ok (.putfield 863, 3) := by decide +kernel
theorem d_Model_back_87 : decode b_Model_back 87 = .ok (.return_, 1) := by decide +kernel
section GV
variable {p : Program} {l : Launch} {e : Env} {R : Room} {s : State} {m : MethodId} {args : Array Value} {below : List Frame} {meth : Method} {c : Code} {H : Heap} {locs : List Loc} {cells slots : Nat} {Q : State → Prop}
variable {cc : ByteArray} {pc : Nat} {ls : Array Slot} {rest st0 : List Value} {dC : Nat → ClassId} {dI : Nat → Nat → Nat} {A : Nat → Prop} {ad ea ev : Nat → Nat} {km : Nat → ClassId} {T T' : gSt} {H0 : Heap}
theorem rd_Model_844 (hx : p.tables.exec = Jvm.exec) (hb : c.code = cc) (hT : ∀ w ∈ lw_good, w.before args s = true) (hown : s.vm.findClass R_Model = some m.cls) (hK : va_K (dC, dI) cls_all (gT LM km) s) (hP : va_P (dC, dI) cls_all (gW LM ad km T) H) (hdg : decode cc pc = .ok (.getfield 844, 3)) (kk : W p l e R s m args below meth c H locs cells slots Q (F0 m (pc + 3) ls (.int (T.1 131 0) :: rest))) : W p l e R s m args below meth c H locs cells slots Q (F0 m pc ls (.ref (ad 0) :: rest)) := gw_get hx hb hT i_Model hown hK hP 0 131 131 (Nat.le_of_ble_eq_true rfl) rfl rfl (Nat.le_of_ble_eq_true rfl) rfl (gv_i rfl) (hT _ fl_Model_844) (fun _ h9 => h9) hdg kk
theorem rd_Model_814 (hx : p.tables.exec = Jvm.exec) (hb : c.code = cc) (hT : ∀ w ∈ lw_good, w.before args s = true) (hown : s.vm.findClass R_Model = some m.cls) (hK : va_K (dC, dI) cls_all (gT LM km) s) (hP : va_P (dC, dI) cls_all (gW LM ad km T) H) (hdg : decode cc pc = .ok (.getfield 814, 3)) (kk : W p l e R s m args below meth c H locs cells slots Q (F0 m (pc + 3) ls (.int (T.1 105 0) :: rest))) : W p l e R s m args below meth c H locs cells slots Q (F0 m pc ls (.ref (ad 0) :: rest)) := gw_get hx hb hT i_Model hown hK hP 0 105 105 (Nat.le_of_ble_eq_true rfl) rfl rfl (Nat.le_of_ble_eq_true rfl) rfl (gv_i rfl) (hT _ fl_Model_814) (fun _ h9 => h9) hdg kk
theorem rd_Model_850 (hx : p.tables.exec = Jvm.exec) (hb : c.code = cc) (hT : ∀ w ∈ lw_good, w.before args s = true) (hown : s.vm.findClass R_Model = some m.cls) (hK : va_K (dC, dI) cls_all (gT LM km) s) (hP : va_P (dC, dI) cls_all (gW LM ad km T) H) (hdg : decode cc pc = .ok (.getfield 850, 3)) (kk : W p l e R s m args below meth c H locs cells slots Q (F0 m (pc + 3) ls (.int (T.1 137 0) :: rest))) : W p l e R s m args below meth c H locs cells slots Q (F0 m pc ls (.ref (ad 0) :: rest)) := gw_get hx hb hT i_Model hown hK hP 0 137 137 (Nat.le_of_ble_eq_true rfl) rfl rfl (Nat.le_of_ble_eq_true rfl) rfl (gv_i rfl) (hT _ fl_Model_850) (fun _ h9 => h9) hdg kk
theorem wr_Model_850 (hx : p.tables.exec = Jvm.exec) (hb : c.code = cc) (hT : ∀ w ∈ lw_good, w.before args s = true) (hown : s.vm.findClass R_Model = some m.cls) (hK : va_K (dC, dI) cls_all (gT LM km) s) (hP : va_P (dC, dI) cls_all (gW LM ad km T) H) (hD : va_D A (gW LM ad km T)) (hS : va_S A H0 H locs) {v : Int32} (hdg : decode cc pc = .ok (.putfield 850, 3)) (kk : ∀ (T1 : gSt), T1 = sI T 137 0 v → ∀ (H1 : Heap) (locs1 : List Loc), va_P (dC, dI) cls_all (gW LM ad km T1) H1 → va_D A (gW LM ad km T1) → va_S A H0 H1 locs1 → W p l e R s m args below meth c H1 locs1 cells slots Q (F0 m (pc + 3) ls rest)) : W p l e R s m args below meth c H locs cells slots Q (F0 m pc ls (.int v :: .ref (ad 0) :: rest)) := gw_puti okM hx hb hT i_Model t_Model t_Model_ok n_Model hown hK hP hD hS 0 137 137 (Nat.le_of_ble_eq_true rfl) rfl rfl (Nat.le_of_ble_eq_true rfl) rfl rfl (hT _ fl_Model_850) (fun _ h9 => h9) rfl (ty := .int) (by decide +kernel) rfl rfl hdg kk
theorem rd_Model_279 (hx : p.tables.exec = Jvm.exec) (hb : c.code = cc) (hT : ∀ w ∈ lw_good, w.before args s = true) (hown : s.vm.findClass R_Model = some m.cls) (hK : va_K (dC, dI) cls_all (gT LM km) s) (hP : va_P (dC, dI) cls_all (gW LM ad km T) H) (hdg : decode cc pc = .ok (.getfield 279, 3)) (kk : W p l e R s m args below meth c H locs cells slots Q (F0 m (pc + 3) ls (.ref (ad 89) :: rest))) : W p l e R s m args below meth c H locs cells slots Q (F0 m pc ls (.ref (ad 0) :: rest)) := gw_get hx hb hT i_Model hown hK hP 0 140 140 (Nat.le_of_ble_eq_true rfl) rfl rfl (Nat.le_of_ble_eq_true rfl) rfl (gv_a rfl) (hT _ fl_Model_279) (fun _ h9 => h9) hdg kk
theorem laM_88 (hx : p.tables.exec = Jvm.exec) (hb : c.code = cc) (hK : va_K (dC, dI) cls_all (gT LM km) s) (hP : va_P (dC, dI) cls_all (gW LM ad km T) H) {x : Int32} (hin : inb x 4096) (hdg : decode cc pc = .ok (.iaload, 1)) (kk : W p l e R s m args below meth c H locs cells slots Q (F0 m (pc + 1) ls (.int (T.1 140 x.toNatClampNeg) :: rest))) : W p l e R s m args below meth c H locs cells slots Q (F0 m pc ls (.int x :: .ref (ad 89) :: rest)) := gw_iald hx hb hK hP 88 140 4096 89 (Nat.le_of_ble_eq_true rfl) rfl rfl rfl rfl rfl hin hdg kk
theorem saM_88 (hx : p.tables.exec = Jvm.exec) (hb : c.code = cc) (hK : va_K (dC, dI) cls_all (gT LM km) s) (hP : va_P (dC, dI) cls_all (gW LM ad km T) H) (hD : va_D A (gW LM ad km T)) (hS : va_S A H0 H locs) {x : Int32} {v : Int32} (hin : inb x 4096) (hdg : decode cc pc = .ok (.iastore, 1)) (kk : ∀ (T1 : gSt), T1 = sI T 140 x.toNatClampNeg v → ∀ (H1 : Heap) (locs1 : List Loc), va_P (dC, dI) cls_all (gW LM ad km T1) H1 → va_D A (gW LM ad km T1) → va_S A H0 H1 locs1 → W p l e R s m args below meth c H1 locs1 cells slots Q (F0 m (pc + 1) ls rest)) : W p l e R s m args below meth c H locs cells slots Q (F0 m pc ls (.int v :: .int x :: .ref (ad 89) :: rest)) := gw_iast okM hx hb hK hP hD hS 88 140 4096 89 (Nat.le_of_ble_eq_true rfl) rfl rfl rfl rfl rfl hin hdg kk
theorem rd_Model_285 (hx : p.tables.exec = Jvm.exec) (hb : c.code = cc) (hT : ∀ w ∈ lw_good, w.before args s = true) (hown : s.vm.findClass R_Model = some m.cls) (hK : va_K (dC, dI) cls_all (gT LM km) s) (hP : va_P (dC, dI) cls_all (gW LM ad km T) H) (hdg : decode cc pc = .ok (.getfield 285, 3)) (kk : W p l e R s m args below meth c H locs cells slots Q (F0 m (pc + 3) ls (.ref (ad 91) :: rest))) : W p l e R s m args below meth c H locs cells slots Q (F0 m pc ls (.ref (ad 0) :: rest)) := gw_get hx hb hT i_Model hown hK hP 0 142 142 (Nat.le_of_ble_eq_true rfl) rfl rfl (Nat.le_of_ble_eq_true rfl) rfl (gv_a rfl) (hT _ fl_Model_285) (fun _ h9 => h9) hdg kk
theorem laM_90 (hx : p.tables.exec = Jvm.exec) (hb : c.code = cc) (hK : va_K (dC, dI) cls_all (gT LM km) s) (hP : va_P (dC, dI) cls_all (gW LM ad km T) H) {x : Int32} (hin : inb x 4096) (hdg : decode cc pc = .ok (.iaload, 1)) (kk : W p l e R s m args below meth c H locs cells slots Q (F0 m (pc + 1) ls (.int (T.1 142 x.toNatClampNeg) :: rest))) : W p l e R s m args below meth c H locs cells slots Q (F0 m pc ls (.int x :: .ref (ad 91) :: rest)) := gw_iald hx hb hK hP 90 142 4096 91 (Nat.le_of_ble_eq_true rfl) rfl rfl rfl rfl rfl hin hdg kk
theorem saM_90 (hx : p.tables.exec = Jvm.exec) (hb : c.code = cc) (hK : va_K (dC, dI) cls_all (gT LM km) s) (hP : va_P (dC, dI) cls_all (gW LM ad km T) H) (hD : va_D A (gW LM ad km T)) (hS : va_S A H0 H locs) {x : Int32} {v : Int32} (hin : inb x 4096) (hdg : decode cc pc = .ok (.iastore, 1)) (kk : ∀ (T1 : gSt), T1 = sI T 142 x.toNatClampNeg v → ∀ (H1 : Heap) (locs1 : List Loc), va_P (dC, dI) cls_all (gW LM ad km T1) H1 → va_D A (gW LM ad km T1) → va_S A H0 H1 locs1 → W p l e R s m args below meth c H1 locs1 cells slots Q (F0 m (pc + 1) ls rest)) : W p l e R s m args below meth c H locs cells slots Q (F0 m pc ls (.int v :: .int x :: .ref (ad 91) :: rest)) := gw_iast okM hx hb hK hP hD hS 90 142 4096 91 (Nat.le_of_ble_eq_true rfl) rfl rfl rfl rfl rfl hin hdg kk
theorem rd_Model_300 (hx : p.tables.exec = Jvm.exec) (hb : c.code = cc) (hT : ∀ w ∈ lw_good, w.before args s = true) (hown : s.vm.findClass R_Model = some m.cls) (hK : va_K (dC, dI) cls_all (gT LM km) s) (hP : va_P (dC, dI) cls_all (gW LM ad km T) H) (hdg : decode cc pc = .ok (.getfield 300, 3)) (kk : W p l e R s m args below meth c H locs cells slots Q (F0 m (pc + 3) ls (.ref (ad 96) :: rest))) : W p l e R s m args below meth c H locs cells slots Q (F0 m pc ls (.ref (ad 0) :: rest)) := gw_get hx hb hT i_Model hown hK hP 0 148 148 (Nat.le_of_ble_eq_true rfl) rfl rfl (Nat.le_of_ble_eq_true rfl) rfl (gv_a rfl) (hT _ fl_Model_300) (fun _ h9 => h9) hdg kk
theorem laM_95 (hx : p.tables.exec = Jvm.exec) (hb : c.code = cc) (hK : va_K (dC, dI) cls_all (gT LM km) s) (hP : va_P (dC, dI) cls_all (gW LM ad km T) H) {x : Int32} (hin : inb x 4096) (hdg : decode cc pc = .ok (.baload, 1)) (kk : W p l e R s m args below meth c H locs cells slots Q (F0 m (pc + 1) ls (.int (T.1 148 x.toNatClampNeg) :: rest))) : W p l e R s m args below meth c H locs cells slots Q (F0 m pc ls (.int x :: .ref (ad 96) :: rest)) := gw_zald hx hb hK hP 95 148 4096 96 (Nat.le_of_ble_eq_true rfl) rfl rfl rfl rfl rfl hin hdg kk
theorem saM_95 (hx : p.tables.exec = Jvm.exec) (hb : c.code = cc) (hK : va_K (dC, dI) cls_all (gT LM km) s) (hP : va_P (dC, dI) cls_all (gW LM ad km T) H) (hD : va_D A (gW LM ad km T)) (hS : va_S A H0 H locs) {x : Int32} {v : Int32} (hz : vp_nar .boolean v = v) (hin : inb x 4096) (hdg : decode cc pc = .ok (.bastore, 1)) (kk : ∀ (T1 : gSt), T1 = sI T 148 x.toNatClampNeg v → ∀ (H1 : Heap) (locs1 : List Loc), va_P (dC, dI) cls_all (gW LM ad km T1) H1 → va_D A (gW LM ad km T1) → va_S A H0 H1 locs1 → W p l e R s m args below meth c H1 locs1 cells slots Q (F0 m (pc + 1) ls rest)) : W p l e R s m args below meth c H locs cells slots Q (F0 m pc ls (.int v :: .int x :: .ref (ad 96) :: rest)) := gw_zast okM hx hb hK hP hD hS 95 148 4096 96 (Nat.le_of_ble_eq_true rfl) rfl rfl rfl rfl rfl hz hin hdg kk
theorem rd_Model_820 (hx : p.tables.exec = Jvm.exec) (hb : c.code = cc) (hT : ∀ w ∈ lw_good, w.before args s = true) (hown : s.vm.findClass R_Model = some m.cls) (hK : va_K (dC, dI) cls_all (gT LM km) s) (hP : va_P (dC, dI) cls_all (gW LM ad km T) H) (hdg : decode cc pc = .ok (.getfield 820, 3)) (kk : W p l e R s m args below meth c H locs cells slots Q (F0 m (pc + 3) ls (.int (T.1 107 0) :: rest))) : W p l e R s m args below meth c H locs cells slots Q (F0 m pc ls (.ref (ad 0) :: rest)) := gw_get hx hb hT i_Model hown hK hP 0 107 107 (Nat.le_of_ble_eq_true rfl) rfl rfl (Nat.le_of_ble_eq_true rfl) rfl (gv_i rfl) (hT _ fl_Model_820) (fun _ h9 => h9) hdg kk
theorem rd_Model_288 (hx : p.tables.exec = Jvm.exec) (hb : c.code = cc) (hT : ∀ w ∈ lw_good, w.before args s = true) (hown : s.vm.findClass R_Model = some m.cls) (hK : va_K (dC, dI) cls_all (gT LM km) s) (hP : va_P (dC, dI) cls_all (gW LM ad km T) H) (hdg : decode cc pc = .ok (.getfield 288, 3)) (kk : W p l e R s m args below meth c H locs cells slots Q (F0 m (pc + 3) ls (.ref (ad 92) :: rest))) : W p l e R s m args below meth c H locs cells slots Q (F0 m pc ls (.ref (ad 0) :: rest)) := gw_get hx hb hT i_Model hown hK hP 0 144 144 (Nat.le_of_ble_eq_true rfl) rfl rfl (Nat.le_of_ble_eq_true rfl) rfl (gv_a rfl) (hT _ fl_Model_288) (fun _ h9 => h9) hdg kk
theorem laM_91 (hx : p.tables.exec = Jvm.exec) (hb : c.code = cc) (hK : va_K (dC, dI) cls_all (gT LM km) s) (hP : va_P (dC, dI) cls_all (gW LM ad km T) H) {x : Int32} (hin : inb x 4096) (hdg : decode cc pc = .ok (.iaload, 1)) (kk : W p l e R s m args below meth c H locs cells slots Q (F0 m (pc + 1) ls (.int (T.1 144 x.toNatClampNeg) :: rest))) : W p l e R s m args below meth c H locs cells slots Q (F0 m pc ls (.int x :: .ref (ad 92) :: rest)) := gw_iald hx hb hK hP 91 144 4096 92 (Nat.le_of_ble_eq_true rfl) rfl rfl rfl rfl rfl hin hdg kk
theorem saM_91 (hx : p.tables.exec = Jvm.exec) (hb : c.code = cc) (hK : va_K (dC, dI) cls_all (gT LM km) s) (hP : va_P (dC, dI) cls_all (gW LM ad km T) H) (hD : va_D A (gW LM ad km T)) (hS : va_S A H0 H locs) {x : Int32} {v : Int32} (hin : inb x 4096) (hdg : decode cc pc = .ok (.iastore, 1)) (kk : ∀ (T1 : gSt), T1 = sI T 144 x.toNatClampNeg v → ∀ (H1 : Heap) (locs1 : List Loc), va_P (dC, dI) cls_all (gW LM ad km T1) H1 → va_D A (gW LM ad km T1) → va_S A H0 H1 locs1 → W p l e R s m args below meth c H1 locs1 cells slots Q (F0 m (pc + 1) ls rest)) : W p l e R s m args below meth c H locs cells slots Q (F0 m pc ls (.int v :: .int x :: .ref (ad 92) :: rest)) := gw_iast okM hx hb hK hP hD hS 91 144 4096 92 (Nat.le_of_ble_eq_true rfl) rfl rfl rfl rfl rfl hin hdg kk
theorem rd_Model_291 (hx : p.tables.exec = Jvm.exec) (hb : c.code = cc) (hT : ∀ w ∈ lw_good, w.before args s = true) (hown : s.vm.findClass R_Model = some m.cls) (hK : va_K (dC, dI) cls_all (gT LM km) s) (hP : va_P (dC, dI) cls_all (gW LM ad km T) H) (hdg : decode cc pc = .ok (.getfield 291, 3)) (kk : W p l e R s m args below meth c H locs cells slots Q (F0 m (pc + 3) ls (.ref (ad 93) :: rest))) : W p l e R s m args below meth c H locs cells slots Q (F0 m pc ls (.ref (ad 0) :: rest)) := gw_get hx hb hT i_Model hown hK hP 0 145 145 (Nat.le_of_ble_eq_true rfl) rfl rfl (Nat.le_of_ble_eq_true rfl) rfl (gv_a rfl) (hT _ fl_Model_291) (fun _ h9 => h9) hdg kk
theorem laM_92 (hx : p.tables.exec = Jvm.exec) (hb : c.code = cc) (hK : va_K (dC, dI) cls_all (gT LM km) s) (hP : va_P (dC, dI) cls_all (gW LM ad km T) H) {x : Int32} (hin : inb x 4096) (hdg : decode cc pc = .ok (.iaload, 1)) (kk : W p l e R s m args below meth c H locs cells slots Q (F0 m (pc + 1) ls (.int (T.1 145 x.toNatClampNeg) :: rest))) : W p l e R s m args below meth c H locs cells slots Q (F0 m pc ls (.int x :: .ref (ad 93) :: rest)) := gw_iald hx hb hK hP 92 145 4096 93 (Nat.le_of_ble_eq_true rfl) rfl rfl rfl rfl rfl hin hdg kk
theorem saM_92 (hx : p.tables.exec = Jvm.exec) (hb : c.code = cc) (hK : va_K (dC, dI) cls_all (gT LM km) s) (hP : va_P (dC, dI) cls_all (gW LM ad km T) H) (hD : va_D A (gW LM ad km T)) (hS : va_S A H0 H locs) {x : Int32} {v : Int32} (hin : inb x 4096) (hdg : decode cc pc = .ok (.iastore, 1)) (kk : ∀ (T1 : gSt), T1 = sI T 145 x.toNatClampNeg v → ∀ (H1 : Heap) (locs1 : List Loc), va_P (dC, dI) cls_all (gW LM ad km T1) H1 → va_D A (gW LM ad km T1) → va_S A H0 H1 locs1 → W p l e R s m args below meth c H1 locs1 cells slots Q (F0 m (pc + 1) ls rest)) : W p l e R s m args below meth c H locs cells slots Q (F0 m pc ls (.int v :: .int x :: .ref (ad 93) :: rest)) := gw_iast okM hx hb hK hP hD hS 92 145 4096 93 (Nat.le_of_ble_eq_true rfl) rfl rfl rfl rfl rfl hin hdg kk
theorem rd_Model_294 (hx : p.tables.exec = Jvm.exec) (hb : c.code = cc) (hT : ∀ w ∈ lw_good, w.before args s = true) (hown : s.vm.findClass R_Model = some m.cls) (hK : va_K (dC, dI) cls_all (gT LM km) s) (hP : va_P (dC, dI) cls_all (gW LM ad km T) H) (hdg : decode cc pc = .ok (.getfield 294, 3)) (kk : W p l e R s m args below meth c H locs cells slots Q (F0 m (pc + 3) ls (.ref (ad 94) :: rest))) : W p l e R s m args below meth c H locs cells slots Q (F0 m pc ls (.ref (ad 0) :: rest)) := gw_get hx hb hT i_Model hown hK hP 0 146 146 (Nat.le_of_ble_eq_true rfl) rfl rfl (Nat.le_of_ble_eq_true rfl) rfl (gv_a rfl) (hT _ fl_Model_294) (fun _ h9 => h9) hdg kk
theorem laM_93 (hx : p.tables.exec = Jvm.exec) (hb : c.code = cc) (hK : va_K (dC, dI) cls_all (gT LM km) s) (hP : va_P (dC, dI) cls_all (gW LM ad km T) H) {x : Int32} (hin : inb x 4096) (hdg : decode cc pc = .ok (.iaload, 1)) (kk : W p l e R s m args below meth c H locs cells slots Q (F0 m (pc + 1) ls (.int (T.1 146 x.toNatClampNeg) :: rest))) : W p l e R s m args below meth c H locs cells slots Q (F0 m pc ls (.int x :: .ref (ad 94) :: rest)) := gw_iald hx hb hK hP 93 146 4096 94 (Nat.le_of_ble_eq_true rfl) rfl rfl rfl rfl rfl hin hdg kk
theorem saM_93 (hx : p.tables.exec = Jvm.exec) (hb : c.code = cc) (hK : va_K (dC, dI) cls_all (gT LM km) s) (hP : va_P (dC, dI) cls_all (gW LM ad km T) H) (hD : va_D A (gW LM ad km T)) (hS : va_S A H0 H locs) {x : Int32} {v : Int32} (hin : inb x 4096) (hdg : decode cc pc = .ok (.iastore, 1)) (kk : ∀ (T1 : gSt), T1 = sI T 146 x.toNatClampNeg v → ∀ (H1 : Heap) (locs1 : List Loc), va_P (dC, dI) cls_all (gW LM ad km T1) H1 → va_D A (gW LM ad km T1) → va_S A H0 H1 locs1 → W p l e R s m args below meth c H1 locs1 cells slots Q (F0 m (pc + 1) ls rest)) : W p l e R s m args below meth c H locs cells slots Q (F0 m pc ls (.int v :: .int x :: .ref (ad 94) :: rest)) := gw_iast okM hx hb hK hP hD hS 93 146 4096 94 (Nat.le_of_ble_eq_true rfl) rfl rfl rfl rfl rfl hin hdg kk
theorem rd_Model_297 (hx : p.tables.exec = Jvm.exec) (hb : c.code = cc) (hT : ∀ w ∈ lw_good, w.before args s = true) (hown : s.vm.findClass R_Model = some m.cls) (hK : va_K (dC, dI) cls_all (gT LM km) s) (hP : va_P (dC, dI) cls_all (gW LM ad km T) H) (hdg : decode cc pc = .ok (.getfield 297, 3)) (kk : W p l e R s m args below meth c H locs cells slots Q (F0 m (pc + 3) ls (.ref (ad 95) :: rest))) : W p l e R s m args below meth c H locs cells slots Q (F0 m pc ls (.ref (ad 0) :: rest)) := gw_get hx hb hT i_Model hown hK hP 0 147 147 (Nat.le_of_ble_eq_true rfl) rfl rfl (Nat.le_of_ble_eq_true rfl) rfl (gv_a rfl) (hT _ fl_Model_297) (fun _ h9 => h9) hdg kk
theorem laM_94 (hx : p.tables.exec = Jvm.exec) (hb : c.code = cc) (hK : va_K (dC, dI) cls_all (gT LM km) s) (hP : va_P (dC, dI) cls_all (gW LM ad km T) H) {x : Int32} (hin : inb x 4096) (hdg : decode cc pc = .ok (.iaload, 1)) (kk : W p l e R s m args below meth c H locs cells slots Q (F0 m (pc + 1) ls (.int (T.1 147 x.toNatClampNeg) :: rest))) : W p l e R s m args below meth c H locs cells slots Q (F0 m pc ls (.int x :: .ref (ad 95) :: rest)) := gw_iald hx hb hK hP 94 147 4096 95 (Nat.le_of_ble_eq_true rfl) rfl rfl rfl rfl rfl hin hdg kk
theorem saM_94 (hx : p.tables.exec = Jvm.exec) (hb : c.code = cc) (hK : va_K (dC, dI) cls_all (gT LM km) s) (hP : va_P (dC, dI) cls_all (gW LM ad km T) H) (hD : va_D A (gW LM ad km T)) (hS : va_S A H0 H locs) {x : Int32} {v : Int32} (hin : inb x 4096) (hdg : decode cc pc = .ok (.iastore, 1)) (kk : ∀ (T1 : gSt), T1 = sI T 147 x.toNatClampNeg v → ∀ (H1 : Heap) (locs1 : List Loc), va_P (dC, dI) cls_all (gW LM ad km T1) H1 → va_D A (gW LM ad km T1) → va_S A H0 H1 locs1 → W p l e R s m args below meth c H1 locs1 cells slots Q (F0 m (pc + 1) ls rest)) : W p l e R s m args below meth c H locs cells slots Q (F0 m pc ls (.int v :: .int x :: .ref (ad 95) :: rest)) := gw_iast okM hx hb hK hP hD hS 94 147 4096 95 (Nat.le_of_ble_eq_true rfl) rfl rfl rfl rfl rfl hin hdg kk
theorem rd_Model_817 (hx : p.tables.exec = Jvm.exec) (hb : c.code = cc) (hT : ∀ w ∈ lw_good, w.before args s = true) (hown : s.vm.findClass R_Model = some m.cls) (hK : va_K (dC, dI) cls_all (gT LM km) s) (hP : va_P (dC, dI) cls_all (gW LM ad km T) H) (hdg : decode cc pc = .ok (.getfield 817, 3)) (kk : W p l e R s m args below meth c H locs cells slots Q (F0 m (pc + 3) ls (.int (T.1 106 0) :: rest))) : W p l e R s m args below meth c H locs cells slots Q (F0 m pc ls (.ref (ad 0) :: rest)) := gw_get hx hb hT i_Model hown hK hP 0 106 106 (Nat.le_of_ble_eq_true rfl) rfl rfl (Nat.le_of_ble_eq_true rfl) rfl (gv_i rfl) (hT _ fl_Model_817) (fun _ h9 => h9) hdg kk
theorem rd_Model_832 (hx : p.tables.exec = Jvm.exec) (hb : c.code = cc) (hT : ∀ w ∈ lw_good, w.before args s = true) (hown : s.vm.findClass R_Model = some m.cls) (hK : va_K (dC, dI) cls_all (gT LM km) s) (hP : va_P (dC, dI) cls_all (gW LM ad km T) H) (hdg : decode cc pc = .ok (.getfield 832, 3)) (kk : W p l e R s m args below meth c H locs cells slots Q (F0 m (pc + 3) ls (.int (T.1 123 0) :: rest))) : W p l e R s m args below meth c H locs cells slots Q (F0 m pc ls (.ref (ad 0) :: rest)) := gw_get hx hb hT i_Model hown hK hP 0 123 123 (Nat.le_of_ble_eq_true rfl) rfl rfl (Nat.le_of_ble_eq_true rfl) rfl (gv_i rfl) (hT _ fl_Model_832) (fun _ h9 => h9) hdg kk
theorem rd_Model_249 (hx : p.tables.exec = Jvm.exec) (hb : c.code = cc) (hT : ∀ w ∈ lw_good, w.before args s = true) (hown : s.vm.findClass R_Model = some m.cls) (hK : va_K (dC, dI) cls_all (gT LM km) s) (hP : va_P (dC, dI) cls_all (gW LM ad km T) H) (hdg : decode cc pc = .ok (.getfield 249, 3)) (kk : W p l e R s m args below meth c H locs cells slots Q (F0 m (pc + 3) ls (.ref (ad 79) :: rest))) : W p l e R s m args below meth c H locs cells slots Q (F0 m pc ls (.ref (ad 0) :: rest)) := gw_get hx hb hT i_Model hown hK hP 0 125 125 (Nat.le_of_ble_eq_true rfl) rfl rfl (Nat.le_of_ble_eq_true rfl) rfl (gv_a rfl) (hT _ fl_Model_249) (fun _ h9 => h9) hdg kk
theorem laM_78 (hx : p.tables.exec = Jvm.exec) (hb : c.code = cc) (hK : va_K (dC, dI) cls_all (gT LM km) s) (hP : va_P (dC, dI) cls_all (gW LM ad km T) H) {x : Int32} (hin : inb x 900) (hdg : decode cc pc = .ok (.iaload, 1)) (kk : W p l e R s m args below meth c H locs cells slots Q (F0 m (pc + 1) ls (.int (T.1 125 x.toNatClampNeg) :: rest))) : W p l e R s m args below meth c H locs cells slots Q (F0 m pc ls (.int x :: .ref (ad 79) :: rest)) := gw_iald hx hb hK hP 78 125 900 79 (Nat.le_of_ble_eq_true rfl) rfl rfl rfl rfl rfl hin hdg kk
theorem saM_78 (hx : p.tables.exec = Jvm.exec) (hb : c.code = cc) (hK : va_K (dC, dI) cls_all (gT LM km) s) (hP : va_P (dC, dI) cls_all (gW LM ad km T) H) (hD : va_D A (gW LM ad km T)) (hS : va_S A H0 H locs) {x : Int32} {v : Int32} (hin : inb x 900) (hdg : decode cc pc = .ok (.iastore, 1)) (kk : ∀ (T1 : gSt), T1 = sI T 125 x.toNatClampNeg v → ∀ (H1 : Heap) (locs1 : List Loc), va_P (dC, dI) cls_all (gW LM ad km T1) H1 → va_D A (gW LM ad km T1) → va_S A H0 H1 locs1 → W p l e R s m args below meth c H1 locs1 cells slots Q (F0 m (pc + 1) ls rest)) : W p l e R s m args below meth c H locs cells slots Q (F0 m pc ls (.int v :: .int x :: .ref (ad 79) :: rest)) := gw_iast okM hx hb hK hP hD hS 78 125 900 79 (Nat.le_of_ble_eq_true rfl) rfl rfl rfl rfl rfl hin hdg kk
theorem rd_Model_252 (hx : p.tables.exec = Jvm.exec) (hb : c.code = cc) (hT : ∀ w ∈ lw_good, w.before args s = true) (hown : s.vm.findClass R_Model = some m.cls) (hK : va_K (dC, dI) cls_all (gT LM km) s) (hP : va_P (dC, dI) cls_all (gW LM ad km T) H) (hdg : decode cc pc = .ok (.getfield 252, 3)) (kk : W p l e R s m args below meth c H locs cells slots Q (F0 m (pc + 3) ls (.ref (ad 80) :: rest))) : W p l e R s m args below meth c H locs cells slots Q (F0 m pc ls (.ref (ad 0) :: rest)) := gw_get hx hb hT i_Model hown hK hP 0 126 126 (Nat.le_of_ble_eq_true rfl) rfl rfl (Nat.le_of_ble_eq_true rfl) rfl (gv_a rfl) (hT _ fl_Model_252) (fun _ h9 => h9) hdg kk
theorem laM_79 (hx : p.tables.exec = Jvm.exec) (hb : c.code = cc) (hK : va_K (dC, dI) cls_all (gT LM km) s) (hP : va_P (dC, dI) cls_all (gW LM ad km T) H) {x : Int32} (hin : inb x 900) (hdg : decode cc pc = .ok (.iaload, 1)) (kk : W p l e R s m args below meth c H locs cells slots Q (F0 m (pc + 1) ls (.int (T.1 126 x.toNatClampNeg) :: rest))) : W p l e R s m args below meth c H locs cells slots Q (F0 m pc ls (.int x :: .ref (ad 80) :: rest)) := gw_iald hx hb hK hP 79 126 900 80 (Nat.le_of_ble_eq_true rfl) rfl rfl rfl rfl rfl hin hdg kk
theorem saM_79 (hx : p.tables.exec = Jvm.exec) (hb : c.code = cc) (hK : va_K (dC, dI) cls_all (gT LM km) s) (hP : va_P (dC, dI) cls_all (gW LM ad km T) H) (hD : va_D A (gW LM ad km T)) (hS : va_S A H0 H locs) {x : Int32} {v : Int32} (hin : inb x 900) (hdg : decode cc pc = .ok (.iastore, 1)) (kk : ∀ (T1 : gSt), T1 = sI T 126 x.toNatClampNeg v → ∀ (H1 : Heap) (locs1 : List Loc), va_P (dC, dI) cls_all (gW LM ad km T1) H1 → va_D A (gW LM ad km T1) → va_S A H0 H1 locs1 → W p l e R s m args below meth c H1 locs1 cells slots Q (F0 m (pc + 1) ls rest)) : W p l e R s m args below meth c H locs cells slots Q (F0 m pc ls (.int v :: .int x :: .ref (ad 80) :: rest)) := gw_iast okM hx hb hK hP hD hS 79 126 900 80 (Nat.le_of_ble_eq_true rfl) rfl rfl rfl rfl rfl hin hdg kk
theorem rd_Model_255 (hx : p.tables.exec = Jvm.exec) (hb : c.code = cc) (hT : ∀ w ∈ lw_good, w.before args s = true) (hown : s.vm.findClass R_Model = some m.cls) (hK : va_K (dC, dI) cls_all (gT LM km) s) (hP : va_P (dC, dI) cls_all (gW LM ad km T) H) (hdg : decode cc pc = .ok (.getfield 255, 3)) (kk : W p l e R s m args below meth c H locs cells slots Q (F0 m (pc + 3) ls (.ref (ad 81) :: rest))) : W p l e R s m args below meth c H locs cells slots Q (F0 m pc ls (.ref (ad 0) :: rest)) := gw_get hx hb hT i_Model hown hK hP 0 127 127 (Nat.le_of_ble_eq_true rfl) rfl rfl (Nat.le_of_ble_eq_true rfl) rfl (gv_a rfl) (hT _ fl_Model_255) (fun _ h9 => h9) hdg kk
theorem laM_80 (hx : p.tables.exec = Jvm.exec) (hb : c.code = cc) (hK : va_K (dC, dI) cls_all (gT LM km) s) (hP : va_P (dC, dI) cls_all (gW LM ad km T) H) {x : Int32} (hin : inb x 900) (hdg : decode cc pc = .ok (.iaload, 1)) (kk : W p l e R s m args below meth c H locs cells slots Q (F0 m (pc + 1) ls (.int (T.1 127 x.toNatClampNeg) :: rest))) : W p l e R s m args below meth c H locs cells slots Q (F0 m pc ls (.int x :: .ref (ad 81) :: rest)) := gw_iald hx hb hK hP 80 127 900 81 (Nat.le_of_ble_eq_true rfl) rfl rfl rfl rfl rfl hin hdg kk
theorem saM_80 (hx : p.tables.exec = Jvm.exec) (hb : c.code = cc) (hK : va_K (dC, dI) cls_all (gT LM km) s) (hP : va_P (dC, dI) cls_all (gW LM ad km T) H) (hD : va_D A (gW LM ad km T)) (hS : va_S A H0 H locs) {x : Int32} {v : Int32} (hin : inb x 900) (hdg : decode cc pc = .ok (.iastore, 1)) (kk : ∀ (T1 : gSt), T1 = sI T 127 x.toNatClampNeg v → ∀ (H1 : Heap) (locs1 : List Loc), va_P (dC, dI) cls_all (gW LM ad km T1) H1 → va_D A (gW LM ad km T1) → va_S A H0 H1 locs1 → W p l e R s m args below meth c H1 locs1 cells slots Q (F0 m (pc + 1) ls rest)) : W p l e R s m args below meth c H locs cells slots Q (F0 m pc ls (.int v :: .int x :: .ref (ad 81) :: rest)) := gw_iast okM hx hb hK hP hD hS 80 127 900 81 (Nat.le_of_ble_eq_true rfl) rfl rfl rfl rfl rfl hin hdg kk
theorem rd_Model_246 (hx : p.tables.exec = Jvm.exec) (hb : c.code = cc) (hT : ∀ w ∈ lw_good, w.before args s = true) (hown : s.vm.findClass R_Model = some m.cls) (hK : va_K (dC, dI) cls_all (gT LM km) s) (hP : va_P (dC, dI) cls_all (gW LM ad km T) H) (hdg : decode cc pc = .ok (.getfield 246, 3)) (kk : W p l e R s m args below meth c H locs cells slots Q (F0 m (pc + 3) ls (.ref (ad 78) :: rest))) : W p l e R s m args below meth c H locs cells slots Q (F0 m pc ls (.ref (ad 0) :: rest)) := gw_get hx hb hT i_Model hown hK hP 0 124 124 (Nat.le_of_ble_eq_true rfl) rfl rfl (Nat.le_of_ble_eq_true rfl) rfl (gv_a rfl) (hT _ fl_Model_246) (fun _ h9 => h9) hdg kk
theorem laM_77 (hx : p.tables.exec = Jvm.exec) (hb : c.code = cc) (hK : va_K (dC, dI) cls_all (gT LM km) s) (hP : va_P (dC, dI) cls_all (gW LM ad km T) H) {x : Int32} (hin : inb x 900) (hdg : decode cc pc = .ok (.iaload, 1)) (kk : W p l e R s m args below meth c H locs cells slots Q (F0 m (pc + 1) ls (.int (T.1 124 x.toNatClampNeg) :: rest))) : W p l e R s m args below meth c H locs cells slots Q (F0 m pc ls (.int x :: .ref (ad 78) :: rest)) := gw_iald hx hb hK hP 77 124 900 78 (Nat.le_of_ble_eq_true rfl) rfl rfl rfl rfl rfl hin hdg kk
theorem saM_77 (hx : p.tables.exec = Jvm.exec) (hb : c.code = cc) (hK : va_K (dC, dI) cls_all (gT LM km) s) (hP : va_P (dC, dI) cls_all (gW LM ad km T) H) (hD : va_D A (gW LM ad km T)) (hS : va_S A H0 H locs) {x : Int32} {v : Int32} (hin : inb x 900) (hdg : decode cc pc = .ok (.iastore, 1)) (kk : ∀ (T1 : gSt), T1 = sI T 124 x.toNatClampNeg v → ∀ (H1 : Heap) (locs1 : List Loc), va_P (dC, dI) cls_all (gW LM ad km T1) H1 → va_D A (gW LM ad km T1) → va_S A H0 H1 locs1 → W p l e R s m args below meth c H1 locs1 cells slots Q (F0 m (pc + 1) ls rest)) : W p l e R s m args below meth c H locs cells slots Q (F0 m pc ls (.int v :: .int x :: .ref (ad 78) :: rest)) := gw_iast okM hx hb hK hP hD hS 77 124 900 78 (Nat.le_of_ble_eq_true rfl) rfl rfl rfl rfl rfl hin hdg kk
theorem wr_Model_863 (hx : p.tables.exec = Jvm.exec) (hb : c.code = cc) (hT : ∀ w ∈ lw_good, w.before args s = true) (hown : s.vm.findClass R_Model = some m.cls) (hK : va_K (dC, dI) cls_all (gT LM km) s) (hP : va_P (dC, dI) cls_all (gW LM ad km T) H) (hD : va_D A (gW LM ad km T)) (hS : va_S A H0 H locs) {v : Int32} (hdg : decode cc pc = .ok (.putfield 863, 3)) (kk : ∀ (T1 : gSt), T1 = sI T 102 0 v → ∀ (H1 : Heap) (locs1 : List Loc), va_P (dC, dI) cls_all (gW LM ad km T1) H1 → va_D A (gW LM ad km T1) → va_S A H0 H1 locs1 → W p l e R s m args below meth c H1 locs1 cells slots Q (F0 m (pc + 3) ls rest)) : W p l e R s m args below meth c H locs cells slots Q (F0 m pc ls (.int v :: .ref (ad 0) :: rest)) := gw_puti okM hx hb hT i_Model t_Model t_Model_ok n_Model hown hK hP hD hS 0 102 102 (Nat.le_of_ble_eq_true rfl) rfl rfl (Nat.le_of_ble_eq_true rfl) rfl rfl (hT _ fl_Model_863) (fun _ h9 => h9) rfl (ty := .int) (by decide +kernel) rfl rfl hdg kk
theorem rd_Model_243 (hx : p.tables.exec = Jvm.exec) (hb : c.code = cc) (hT : ∀ w ∈ lw_good, w.before args s = true) (hown : s.vm.findClass R_Model = some m.cls) (hK : va_K (dC, dI) cls_all (gT LM km) s) (hP : va_P (dC, dI) cls_all (gW LM ad km T) H) (hdg : decode cc pc = .ok (.getfield 243, 3)) (kk : W p l e R s m args below meth c H locs cells slots Q (F0 m (pc + 3) ls (.ref (ad 77) :: rest))) : W p l e R s m args below meth c H locs cells slots Q (F0 m pc ls (.ref (ad 0) :: rest)) := gw_get hx hb hT i_Model hown hK hP 0 122 122 (Nat.le_of_ble_eq_true rfl) rfl rfl (Nat.le_of_ble_eq_true rfl) rfl (gv_a rfl) (hT _ fl_Model_243) (fun _ h9 => h9) hdg kk
theorem rd_Model_808 (hx : p.tables.exec = Jvm.exec) (hb : c.code = cc) (hT : ∀ w ∈ lw_good, w.before args s = true) (hown : s.vm.findClass R_Model = some m.cls) (hK : va_K (dC, dI) cls_all (gT LM km) s) (hP : va_P (dC, dI) cls_all (gW LM ad km T) H) (hdg : decode cc pc = .ok (.getfield 808, 3)) (kk : W p l e R s m args below meth c H locs cells slots Q (F0 m (pc + 3) ls (.int (T.1 103 0) :: rest))) : W p l e R s m args below meth c H locs cells slots Q (F0 m pc ls (.ref (ad 0) :: rest)) := gw_get hx hb hT i_Model hown hK hP 0 103 103 (Nat.le_of_ble_eq_true rfl) rfl rfl (Nat.le_of_ble_eq_true rfl) rfl (gv_i rfl) (hT _ fl_Model_808) (fun _ h9 => h9) hdg kk
theorem rd_Model_258 (hx : p.tables.exec = Jvm.exec) (hb : c.code = cc) (hT : ∀ w ∈ lw_good, w.before args s = true) (hown : s.vm.findClass R_Model = some m.cls) (hK : va_K (dC, dI) cls_all (gT LM km) s) (hP : va_P (dC, dI) cls_all (gW LM ad km T) H) (hdg : decode cc pc = .ok (.getfield 258, 3)) (kk : W p l e R s m args below meth c H locs cells slots Q (F0 m (pc + 3) ls (.ref (ad 82) :: rest))) : W p l e R s m args below meth c H locs cells slots Q (F0 m pc ls (.ref (ad 0) :: rest)) := gw_get hx hb hT i_Model hown hK hP 0 128 128 (Nat.le_of_ble_eq_true rfl) rfl rfl (Nat.le_of_ble_eq_true rfl) rfl (gv_a rfl) (hT _ fl_Model_258) (fun _ h9 => h9) hdg kk
theorem laM_81 (hx : p.tables.exec = Jvm.exec) (hb : c.code = cc) (hK : va_K (dC, dI) cls_all (gT LM km) s) (hP : va_P (dC, dI) cls_all (gW LM ad km T) H) {x : Int32} (hin : inb x 900) (hdg : decode cc pc = .ok (.iaload, 1)) (kk : W p l e R s m args below meth c H locs cells slots Q (F0 m (pc + 1) ls (.int (T.1 128 x.toNatClampNeg) :: rest))) : W p l e R s m args below meth c H locs cells slots Q (F0 m pc ls (.int x :: .ref (ad 82) :: rest)) := gw_iald hx hb hK hP 81 128 900 82 (Nat.le_of_ble_eq_true rfl) rfl rfl rfl rfl rfl hin hdg kk
theorem saM_81 (hx : p.tables.exec = Jvm.exec) (hb : c.code = cc) (hK : va_K (dC, dI) cls_all (gT LM km) s) (hP : va_P (dC, dI) cls_all (gW LM ad km T) H) (hD : va_D A (gW LM ad km T)) (hS : va_S A H0 H locs) {x : Int32} {v : Int32} (hin : inb x 900) (hdg : decode cc pc = .ok (.iastore, 1)) (kk : ∀ (T1 : gSt), T1 = sI T 128 x.toNatClampNeg v → ∀ (H1 : Heap) (locs1 : List Loc), va_P (dC, dI) cls_all (gW LM ad km T1) H1 → va_D A (gW LM ad km T1) → va_S A H0 H1 locs1 → W p l e R s m args below meth c H1 locs1 cells slots Q (F0 m (pc + 1) ls rest)) : W p l e R s m args below meth c H locs cells slots Q (F0 m pc ls (.int v :: .int x :: .ref (ad 82) :: rest)) := gw_iast okM hx hb hK hP hD hS 81 128 900 82 (Nat.le_of_ble_eq_true rfl) rfl rfl rfl rfl rfl hin hdg kk
theorem laM_76 (hx : p.tables.exec = Jvm.exec) (hb : c.code = cc) (hK : va_K (dC, dI) cls_all (gT LM km) s) (hP : va_P (dC, dI) cls_all (gW LM ad km T) H) {x : Int32} (hin : inb x 1640) (hdg : decode cc pc = .ok (.iaload, 1)) (kk : W p l e R s m args below meth c H locs cells slots Q (F0 m (pc + 1) ls (.int (T.1 122 x.toNatClampNeg) :: rest))) : W p l e R s m args below meth c H locs cells slots Q (F0 m pc ls (.int x :: .ref (ad 77) :: rest)) := gw_iald hx hb hK hP 76 122 1640 77 (Nat.le_of_ble_eq_true rfl) rfl rfl rfl rfl rfl hin hdg kk
theorem saM_76 (hx : p.tables.exec = Jvm.exec) (hb : c.code = cc) (hK : va_K (dC, dI) cls_all (gT LM km) s) (hP : va_P (dC, dI) cls_all (gW LM ad km T) H) (hD : va_D A (gW LM ad km T)) (hS : va_S A H0 H locs) {x : Int32} {v : Int32} (hin : inb x 1640) (hdg : decode cc pc = .ok (.iastore, 1)) (kk : ∀ (T1 : gSt), T1 = sI T 122 x.toNatClampNeg v → ∀ (H1 : Heap) (locs1 : List Loc), va_P (dC, dI) cls_all (gW LM ad km T1) H1 → va_D A (gW LM ad km T1) → va_S A H0 H1 locs1 → W p l e R s m args below meth c H1 locs1 cells slots Q (F0 m (pc + 1) ls rest)) : W p l e R s m args below meth c H locs cells slots Q (F0 m pc ls (.int v :: .int x :: .ref (ad 77) :: rest)) := gw_iast okM hx hb hK hP hD hS 76 122 1640 77 (Nat.le_of_ble_eq_true rfl) rfl rfl rfl rfl rfl hin hdg kk
theorem rd_Model_240 (hx : p.tables.exec = Jvm.exec) (hb : c.code = cc) (hT : ∀ w ∈ lw_good, w.before args s = true) (hown : s.vm.findClass R_Model = some m.cls) (hK : va_K (dC, dI) cls_all (gT LM km) s) (hP : va_P (dC, dI) cls_all (gW LM ad km T) H) (hdg : decode cc pc = .ok (.getfield 240, 3)) (kk : W p l e R s m args below meth c H locs cells slots Q (F0 m (pc + 3) ls (.ref (ad 76) :: rest))) : W p l e R s m args below meth c H locs cells slots Q (F0 m pc ls (.ref (ad 0) :: rest)) := gw_get hx hb hT i_Model hown hK hP 0 121 121 (Nat.le_of_ble_eq_true rfl) rfl rfl (Nat.le_of_ble_eq_true rfl) rfl (gv_a rfl) (hT _ fl_Model_240) (fun _ h9 => h9) hdg kk
theorem laM_75 (hx : p.tables.exec = Jvm.exec) (hb : c.code = cc) (hK : va_K (dC, dI) cls_all (gT LM km) s) (hP : va_P (dC, dI) cls_all (gW LM ad km T) H) {x : Int32} (hin : inb x 492) (hdg : decode cc pc = .ok (.iaload, 1)) (kk : W p l e R s m args below meth c H locs cells slots Q (F0 m (pc + 1) ls (.int (T.1 121 x.toNatClampNeg) :: rest))) : W p l e R s m args below meth c H locs cells slots Q (F0 m pc ls (.int x :: .ref (ad 76) :: rest)) := gw_iald hx hb hK hP 75 121 492 76 (Nat.le_of_ble_eq_true rfl) rfl rfl rfl rfl rfl hin hdg kk
theorem saM_75 (hx : p.tables.exec = Jvm.exec) (hb : c.code = cc) (hK : va_K (dC, dI) cls_all (gT LM km) s) (hP : va_P (dC, dI) cls_all (gW LM ad km T) H) (hD : va_D A (gW LM ad km T)) (hS : va_S A H0 H locs) {x : Int32} {v : Int32} (hin : inb x 492) (hdg : decode cc pc = .ok (.iastore, 1)) (kk : ∀ (T1 : gSt), T1 = sI T 121 x.toNatClampNeg v → ∀ (H1 : Heap) (locs1 : List Loc), va_P (dC, dI) cls_all (gW LM ad km T1) H1 → va_D A (gW LM ad km T1) → va_S A H0 H1 locs1 → W p l e R s m args below meth c H1 locs1 cells slots Q (F0 m (pc + 1) ls rest)) : W p l e R s m args below meth c H locs cells slots Q (F0 m pc ls (.int v :: .int x :: .ref (ad 76) :: rest)) := gw_iast okM hx hb hK hP hD hS 75 121 492 76 (Nat.le_of_ble_eq_true rfl) rfl rfl rfl rfl rfl hin hdg kk
theorem rd_Model_802 (hx : p.tables.exec = Jvm.exec) (hb : c.code = cc) (hT : ∀ w ∈ lw_good, w.before args s = true) (hown : s.vm.findClass R_Model = some m.cls) (hK : va_K (dC, dI) cls_all (gT LM km) s) (hP : va_P (dC, dI) cls_all (gW LM ad km T) H) (hdg : decode cc pc = .ok (.getfield 802, 3)) (kk : W p l e R s m args below meth c H locs cells slots Q (F0 m (pc + 3) ls (.int (T.1 100 0) :: rest))) : W p l e R s m args below meth c H locs cells slots Q (F0 m pc ls (.ref (ad 0) :: rest)) := gw_get hx hb hT i_Model hown hK hP 0 100 100 (Nat.le_of_ble_eq_true rfl) rfl rfl (Nat.le_of_ble_eq_true rfl) rfl (gv_i rfl) (hT _ fl_Model_802) (fun _ h9 => h9) hdg kk
theorem rd_Model_863 (hx : p.tables.exec = Jvm.exec) (hb : c.code = cc) (hT : ∀ w ∈ lw_good, w.before args s = true) (hown : s.vm.findClass R_Model = some m.cls) (hK : va_K (dC, dI) cls_all (gT LM km) s) (hP : va_P (dC, dI) cls_all (gW LM ad km T) H) (hdg : decode cc pc = .ok (.getfield 863, 3)) (kk : W p l e R s m args below meth c H locs cells slots Q (F0 m (pc + 3) ls (.int (T.1 102 0) :: rest))) : W p l e R s m args below meth c H locs cells slots Q (F0 m pc ls (.ref (ad 0) :: rest)) := gw_get hx hb hT i_Model hown hK hP 0 102 102 (Nat.le_of_ble_eq_true rfl) rfl rfl (Nat.le_of_ble_eq_true rfl) rfl (gv_i rfl) (hT _ fl_Model_863) (fun _ h9 => h9) hdg kk
theorem rd_Model_228 (hx : p.tables.exec = Jvm.exec) (hb : c.code = cc) (hT : ∀ w ∈ lw_good, w.before args s = true) (hown : s.vm.findClass R_Model = some m.cls) (hK : va_K (dC, dI) cls_all (gT LM km) s) (hP : va_P (dC, dI) cls_all (gW LM ad km T) H) (hdg : decode cc pc = .ok (.getfield 228, 3)) (kk : W p l e R s m args below meth c H locs cells slots Q (F0 m (pc + 3) ls (.ref (ad 72) :: rest))) : W p l e R s m args below meth c H locs cells slots Q (F0 m pc ls (.ref (ad 0) :: rest)) := gw_get hx hb hT i_Model hown hK hP 0 117 117 (Nat.le_of_ble_eq_true rfl) rfl rfl (Nat.le_of_ble_eq_true rfl) rfl (gv_a rfl) (hT _ fl_Model_228) (fun _ h9 => h9) hdg kk
theorem laM_71 (hx : p.tables.exec = Jvm.exec) (hb : c.code = cc) (hK : va_K (dC, dI) cls_all (gT LM km) s) (hP : va_P (dC, dI) cls_all (gW LM ad km T) H) {x : Int32} (hin : inb x 820) (hdg : decode cc pc = .ok (.iaload, 1)) (kk : W p l e R s m args below meth c H locs cells slots Q (F0 m (pc + 1) ls (.int (T.1 117 x.toNatClampNeg) :: rest))) : W p l e R s m args below meth c H locs cells slots Q (F0 m pc ls (.int x :: .ref (ad 72) :: rest)) := gw_iald hx hb hK hP 71 117 820 72 (Nat.le_of_ble_eq_true rfl) rfl rfl rfl rfl rfl hin hdg kk
theorem saM_71 (hx : p.tables.exec = Jvm.exec) (hb : c.code = cc) (hK : va_K (dC, dI) cls_all (gT LM km) s) (hP : va_P (dC, dI) cls_all (gW LM ad km T) H) (hD : va_D A (gW LM ad km T)) (hS : va_S A H0 H locs) {x : Int32} {v : Int32} (hin : inb x 820) (hdg : decode cc pc = .ok (.iastore, 1)) (kk : ∀ (T1 : gSt), T1 = sI T 117 x.toNatClampNeg v → ∀ (H1 : Heap) (locs1 : List Loc), va_P (dC, dI) cls_all (gW LM ad km T1) H1 → va_D A (gW LM ad km T1) → va_S A H0 H1 locs1 → W p l e R s m args below meth c H1 locs1 cells slots Q (F0 m (pc + 1) ls rest)) : W p l e R s m args below meth c H locs cells slots Q (F0 m pc ls (.int v :: .int x :: .ref (ad 72) :: rest)) := gw_iast okM hx hb hK hP hD hS 71 117 820 72 (Nat.le_of_ble_eq_true rfl) rfl rfl rfl rfl rfl hin hdg kk
theorem rd_Model_231 (hx : p.tables.exec = Jvm.exec) (hb : c.code = cc) (hT : ∀ w ∈ lw_good, w.before args s = true) (hown : s.vm.findClass R_Model = some m.cls) (hK : va_K (dC, dI) cls_all (gT LM km) s) (hP : va_P (dC, dI) cls_all (gW LM ad km T) H) (hdg : decode cc pc = .ok (.getfield 231, 3)) (kk : W p l e R s m args below meth c H locs cells slots Q (F0 m (pc + 3) ls (.ref (ad 73) :: rest))) : W p l e R s m args below meth c H locs cells slots Q (F0 m pc ls (.ref (ad 0) :: rest)) := gw_get hx hb hT i_Model hown hK hP 0 118 118 (Nat.le_of_ble_eq_true rfl) rfl rfl (Nat.le_of_ble_eq_true rfl) rfl (gv_a rfl) (hT _ fl_Model_231) (fun _ h9 => h9) hdg kk
theorem laM_72 (hx : p.tables.exec = Jvm.exec) (hb : c.code = cc) (hK : va_K (dC, dI) cls_all (gT LM km) s) (hP : va_P (dC, dI) cls_all (gW LM ad km T) H) {x : Int32} (hin : inb x 820) (hdg : decode cc pc = .ok (.iaload, 1)) (kk : W p l e R s m args below meth c H locs cells slots Q (F0 m (pc + 1) ls (.int (T.1 118 x.toNatClampNeg) :: rest))) : W p l e R s m args below meth c H locs cells slots Q (F0 m pc ls (.int x :: .ref (ad 73) :: rest)) := gw_iald hx hb hK hP 72 118 820 73 (Nat.le_of_ble_eq_true rfl) rfl rfl rfl rfl rfl hin hdg kk
theorem saM_72 (hx : p.tables.exec = Jvm.exec) (hb : c.code = cc) (hK : va_K (dC, dI) cls_all (gT LM km) s) (hP : va_P (dC, dI) cls_all (gW LM ad km T) H) (hD : va_D A (gW LM ad km T)) (hS : va_S A H0 H locs) {x : Int32} {v : Int32} (hin : inb x 820) (hdg : decode cc pc = .ok (.iastore, 1)) (kk : ∀ (T1 : gSt), T1 = sI T 118 x.toNatClampNeg v → ∀ (H1 : Heap) (locs1 : List Loc), va_P (dC, dI) cls_all (gW LM ad km T1) H1 → va_D A (gW LM ad km T1) → va_S A H0 H1 locs1 → W p l e R s m args below meth c H1 locs1 cells slots Q (F0 m (pc + 1) ls rest)) : W p l e R s m args below meth c H locs cells slots Q (F0 m pc ls (.int v :: .int x :: .ref (ad 73) :: rest)) := gw_iast okM hx hb hK hP hD hS 72 118 820 73 (Nat.le_of_ble_eq_true rfl) rfl rfl rfl rfl rfl hin hdg kk
theorem rd_Model_234 (hx : p.tables.exec = Jvm.exec) (hb : c.code = cc) (hT : ∀ w ∈ lw_good, w.before args s = true) (hown : s.vm.findClass R_Model = some m.cls) (hK : va_K (dC, dI) cls_all (gT LM km) s) (hP : va_P (dC, dI) cls_all (gW LM ad km T) H) (hdg : decode cc pc = .ok (.getfield 234, 3)) (kk : W p l e R s m args below meth c H locs cells slots Q (F0 m (pc + 3) ls (.ref (ad 74) :: rest))) : W p l e R s m args below meth c H locs cells slots Q (F0 m pc ls (.ref (ad 0) :: rest)) := gw_get hx hb hT i_Model hown hK hP 0 119 119 (Nat.le_of_ble_eq_true rfl) rfl rfl (Nat.le_of_ble_eq_true rfl) rfl (gv_a rfl) (hT _ fl_Model_234) (fun _ h9 => h9) hdg kk
theorem laM_73 (hx : p.tables.exec = Jvm.exec) (hb : c.code = cc) (hK : va_K (dC, dI) cls_all (gT LM km) s) (hP : va_P (dC, dI) cls_all (gW LM ad km T) H) {x : Int32} (hin : inb x 820) (hdg : decode cc pc = .ok (.iaload, 1)) (kk : W p l e R s m args below meth c H locs cells slots Q (F0 m (pc + 1) ls (.int (T.1 119 x.toNatClampNeg) :: rest))) : W p l e R s m args below meth c H locs cells slots Q (F0 m pc ls (.int x :: .ref (ad 74) :: rest)) := gw_iald hx hb hK hP 73 119 820 74 (Nat.le_of_ble_eq_true rfl) rfl rfl rfl rfl rfl hin hdg kk
theorem saM_73 (hx : p.tables.exec = Jvm.exec) (hb : c.code = cc) (hK : va_K (dC, dI) cls_all (gT LM km) s) (hP : va_P (dC, dI) cls_all (gW LM ad km T) H) (hD : va_D A (gW LM ad km T)) (hS : va_S A H0 H locs) {x : Int32} {v : Int32} (hin : inb x 820) (hdg : decode cc pc = .ok (.iastore, 1)) (kk : ∀ (T1 : gSt), T1 = sI T 119 x.toNatClampNeg v → ∀ (H1 : Heap) (locs1 : List Loc), va_P (dC, dI) cls_all (gW LM ad km T1) H1 → va_D A (gW LM ad km T1) → va_S A H0 H1 locs1 → W p l e R s m args below meth c H1 locs1 cells slots Q (F0 m (pc + 1) ls rest)) : W p l e R s m args below meth c H locs cells slots Q (F0 m pc ls (.int v :: .int x :: .ref (ad 74) :: rest)) := gw_iast okM hx hb hK hP hD hS 73 119 820 74 (Nat.le_of_ble_eq_true rfl) rfl rfl rfl rfl rfl hin hdg kk
theorem rd_Model_237 (hx : p.tables.exec = Jvm.exec) (hb : c.code = cc) (hT : ∀ w ∈ lw_good, w.before args s = true) (hown : s.vm.findClass R_Model = some m.cls) (hK : va_K (dC, dI) cls_all (gT LM km) s) (hP : va_P (dC, dI) cls_all (gW LM ad km T) H) (hdg : decode cc pc = .ok (.getfield 237, 3)) (kk : W p l e R s m args below meth c H locs cells slots Q (F0 m (pc + 3) ls (.ref (ad 75) :: rest))) : W p l e R s m args below meth c H locs cells slots Q (F0 m pc ls (.ref (ad 0) :: rest)) := gw_get hx hb hT i_Model hown hK hP 0 120 120 (Nat.le_of_ble_eq_true rfl) rfl rfl (Nat.le_of_ble_eq_true rfl) rfl (gv_a rfl) (hT _ fl_Model_237) (fun _ h9 => h9) hdg kk
theorem laM_74 (hx : p.tables.exec = Jvm.exec) (hb : c.code = cc) (hK : va_K (dC, dI) cls_all (gT LM km) s) (hP : va_P (dC, dI) cls_all (gW LM ad km T) H) {x : Int32} (hin : inb x 820) (hdg : decode cc pc = .ok (.iaload, 1)) (kk : W p l e R s m args below meth c H locs cells slots Q (F0 m (pc + 1) ls (.int (T.1 120 x.toNatClampNeg) :: rest))) : W p l e R s m args below meth c H locs cells slots Q (F0 m pc ls (.int x :: .ref (ad 75) :: rest)) := gw_iald hx hb hK hP 74 120 820 75 (Nat.le_of_ble_eq_true rfl) rfl rfl rfl rfl rfl hin hdg kk
theorem saM_74 (hx : p.tables.exec = Jvm.exec) (hb : c.code = cc) (hK : va_K (dC, dI) cls_all (gT LM km) s) (hP : va_P (dC, dI) cls_all (gW LM ad km T) H) (hD : va_D A (gW LM ad km T)) (hS : va_S A H0 H locs) {x : Int32} {v : Int32} (hin : inb x 820) (hdg : decode cc pc = .ok (.iastore, 1)) (kk : ∀ (T1 : gSt), T1 = sI T 120 x.toNatClampNeg v → ∀ (H1 : Heap) (locs1 : List Loc), va_P (dC, dI) cls_all (gW LM ad km T1) H1 → va_D A (gW LM ad km T1) → va_S A H0 H1 locs1 → W p l e R s m args below meth c H1 locs1 cells slots Q (F0 m (pc + 1) ls rest)) : W p l e R s m args below meth c H locs cells slots Q (F0 m pc ls (.int v :: .int x :: .ref (ad 75) :: rest)) := gw_iast okM hx hb hK hP hD hS 74 120 820 75 (Nat.le_of_ble_eq_true rfl) rfl rfl rfl rfl rfl hin hdg kk
theorem rd_Model_811 (hx : p.tables.exec = Jvm.exec) (hb : c.code = cc) (hT : ∀ w ∈ lw_good, w.before args s = true) (hown : s.vm.findClass R_Model = some m.cls) (hK : va_K (dC, dI) cls_all (gT LM km) s) (hP : va_P (dC, dI) cls_all (gW LM ad km T) H) (hdg : decode cc pc = .ok (.getfield 811, 3)) (kk : W p l e R s m args below meth c H locs cells slots Q (F0 m (pc + 3) ls (.int (T.1 104 0) :: rest))) : W p l e R s m args below meth c H locs cells slots Q (F0 m pc ls (.ref (ad 0) :: rest)) := gw_get hx hb hT i_Model hown hK hP 0 104 104 (Nat.le_of_ble_eq_true rfl) rfl rfl (Nat.le_of_ble_eq_true rfl) rfl (gv_i rfl) (hT _ fl_Model_811) (fun _ h9 => h9) hdg kk
theorem rd_Model_310 (hx : p.tables.exec = Jvm.exec) (hb : c.code = cc) (hT : ∀ w ∈ lw_good, w.before args s = true) (hown : s.vm.findClass R_Model = some m.cls) (hK : va_K (dC, dI) cls_all (gT LM km) s) (hP : va_P (dC, dI) cls_all (gW LM ad km T) H) (hdg : decode cc pc = .ok (.getfield 310, 3)) (kk : W p l e R s m args below meth c H locs cells slots Q (F0 m (pc + 3) ls (.ref (ad 99) :: rest))) : W p l e R s m args below meth c H locs cells slots Q (F0 m pc ls (.ref (ad 0) :: rest)) := gw_get hx hb hT i_Model hown hK hP 0 152 152 (Nat.le_of_ble_eq_true rfl) rfl rfl (Nat.le_of_ble_eq_true rfl) rfl (gv_a rfl) (hT _ fl_Model_310) (fun _ h9 => h9) hdg kk
theorem laM_98 (hx : p.tables.exec = Jvm.exec) (hb : c.code = cc) (hK : va_K (dC, dI) cls_all (gT LM km) s) (hP : va_P (dC, dI) cls_all (gW LM ad km T) H) {x : Int32} (hin : inb x 300) (hdg : decode cc pc = .ok (.iaload, 1)) (kk : W p l e R s m args below meth c H locs cells slots Q (F0 m (pc + 1) ls (.int (T.1 152 x.toNatClampNeg) :: rest))) : W p l e R s m args below meth c H locs cells slots Q (F0 m pc ls (.int x :: .ref (ad 99) :: rest)) := gw_iald hx hb hK hP 98 152 300 99 (Nat.le_of_ble_eq_true rfl) rfl rfl rfl rfl rfl hin hdg kk
theorem saM_98 (hx : p.tables.exec = Jvm.exec) (hb : c.code = cc) (hK : va_K (dC, dI) cls_all (gT LM km) s) (hP : va_P (dC, dI) cls_all (gW LM ad km T) H) (hD : va_D A (gW LM ad km T)) (hS : va_S A H0 H locs) {x : Int32} {v : Int32} (hin : inb x 300) (hdg : decode cc pc = .ok (.iastore, 1)) (kk : ∀ (T1 : gSt), T1 = sI T 152 x.toNatClampNeg v → ∀ (H1 : Heap) (locs1 : List Loc), va_P (dC, dI) cls_all (gW LM ad km T1) H1 → va_D A (gW LM ad km T1) → va_S A H0 H1 locs1 → W p l e R s m args below meth c H1 locs1 cells slots Q (F0 m (pc + 1) ls rest)) : W p l e R s m args below meth c H locs cells slots Q (F0 m pc ls (.int v :: .int x :: .ref (ad 99) :: rest)) := gw_iast okM hx hb hK hP hD hS 98 152 300 99 (Nat.le_of_ble_eq_true rfl) rfl rfl rfl rfl rfl hin hdg kk
theorem rd_Model_829 (hx : p.tables.exec = Jvm.exec) (hb : c.code = cc) (hT : ∀ w ∈ lw_good, w.before args s = true) (hown : s.vm.findClass R_Model = some m.cls) (hK : va_K (dC, dI) cls_all (gT LM km) s) (hP : va_P (dC, dI) cls_all (gW LM ad km T) H) (hdg : decode cc pc = .ok (.getfield 829, 3)) (kk : W p l e R s m args below meth c H locs cells slots Q (F0 m (pc + 3) ls (.int (T.1 150 0) :: rest))) : W p l e R s m args below meth c H locs cells slots Q (F0 m pc ls (.ref (ad 0) :: rest)) := gw_get hx hb hT i_Model hown hK hP 0 150 150 (Nat.le_of_ble_eq_true rfl) rfl rfl (Nat.le_of_ble_eq_true rfl) rfl (gv_i rfl) (hT _ fl_Model_829) (fun _ h9 => h9) hdg kk
theorem rd_Model_307 (hx : p.tables.exec = Jvm.exec) (hb : c.code = cc) (hT : ∀ w ∈ lw_good, w.before args s = true) (hown : s.vm.findClass R_Model = some m.cls) (hK : va_K (dC, dI) cls_all (gT LM km) s) (hP : va_P (dC, dI) cls_all (gW LM ad km T) H) (hdg : decode cc pc = .ok (.getfield 307, 3)) (kk : W p l e R s m args below meth c H locs cells slots Q (F0 m (pc + 3) ls (.ref (ad 98) :: rest))) : W p l e R s m args below meth c H locs cells slots Q (F0 m pc ls (.ref (ad 0) :: rest)) := gw_get hx hb hT i_Model hown hK hP 0 151 151 (Nat.le_of_ble_eq_true rfl) rfl rfl (Nat.le_of_ble_eq_true rfl) rfl (gv_a rfl) (hT _ fl_Model_307) (fun _ h9 => h9) hdg kk
theorem laM_97 (hx : p.tables.exec = Jvm.exec) (hb : c.code = cc) (hK : va_K (dC, dI) cls_all (gT LM km) s) (hP : va_P (dC, dI) cls_all (gW LM ad km T) H) {x : Int32} (hin : inb x 100) (hdg : decode cc pc = .ok (.iaload, 1)) (kk : W p l e R s m args below meth c H locs cells slots Q (F0 m (pc + 1) ls (.int (T.1 151 x.toNatClampNeg) :: rest))) : W p l e R s m args below meth c H locs cells slots Q (F0 m pc ls (.int x :: .ref (ad 98) :: rest)) := gw_iald hx hb hK hP 97 151 100 98 (Nat.le_of_ble_eq_true rfl) rfl rfl rfl rfl rfl hin hdg kk
theorem saM_97 (hx : p.tables.exec = Jvm.exec) (hb : c.code = cc) (hK : va_K (dC, dI) cls_all (gT LM km) s) (hP : va_P (dC, dI) cls_all (gW LM ad km T) H) (hD : va_D A (gW LM ad km T)) (hS : va_S A H0 H locs) {x : Int32} {v : Int32} (hin : inb x 100) (hdg : decode cc pc = .ok (.iastore, 1)) (kk : ∀ (T1 : gSt), T1 = sI T 151 x.toNatClampNeg v → ∀ (H1 : Heap) (locs1 : List Loc), va_P (dC, dI) cls_all (gW LM ad km T1) H1 → va_D A (gW LM ad km T1) → va_S A H0 H1 locs1 → W p l e R s m args below meth c H1 locs1 cells slots Q (F0 m (pc + 1) ls rest)) : W p l e R s m args below meth c H locs cells slots Q (F0 m pc ls (.int v :: .int x :: .ref (ad 98) :: rest)) := gw_iast okM hx hb hK hP hD hS 97 151 100 98 (Nat.le_of_ble_eq_true rfl) rfl rfl rfl rfl rfl hin hdg kk
theorem rd_Model_219 (hx : p.tables.exec = Jvm.exec) (hb : c.code = cc) (hT : ∀ w ∈ lw_good, w.before args s = true) (hown : s.vm.findClass R_Model = some m.cls) (hK : va_K (dC, dI) cls_all (gT LM km) s) (hP : va_P (dC, dI) cls_all (gW LM ad km T) H) (hdg : decode cc pc = .ok (.getfield 219, 3)) (kk : W p l e R s m args below meth c H locs cells slots Q (F0 m (pc + 3) ls (.ref (ad 69) :: rest))) : W p l e R s m args below meth c H locs cells slots Q (F0 m pc ls (.ref (ad 0) :: rest)) := gw_get hx hb hT i_Model hown hK hP 0 114 114 (Nat.le_of_ble_eq_true rfl) rfl rfl (Nat.le_of_ble_eq_true rfl) rfl (gv_a rfl) (hT _ fl_Model_219) (fun _ h9 => h9) hdg kk
theorem laM_68 (hx : p.tables.exec = Jvm.exec) (hb : c.code = cc) (hK : va_K (dC, dI) cls_all (gT LM km) s) (hP : va_P (dC, dI) cls_all (gW LM ad km T) H) {x : Int32} (hin : inb x 41) (hdg : decode cc pc = .ok (.iaload, 1)) (kk : W p l e R s m args below meth c H locs cells slots Q (F0 m (pc + 1) ls (.int (T.1 114 x.toNatClampNeg) :: rest))) : W p l e R s m args below meth c H locs cells slots Q (F0 m pc ls (.int x :: .ref (ad 69) :: rest)) := gw_iald hx hb hK hP 68 114 41 69 (Nat.le_of_ble_eq_true rfl) rfl rfl rfl rfl rfl hin hdg kk
theorem saM_68 (hx : p.tables.exec = Jvm.exec) (hb : c.code = cc) (hK : va_K (dC, dI) cls_all (gT LM km) s) (hP : va_P (dC, dI) cls_all (gW LM ad km T) H) (hD : va_D A (gW LM ad km T)) (hS : va_S A H0 H locs) {x : Int32} {v : Int32} (hin : inb x 41) (hdg : decode cc pc = .ok (.iastore, 1)) (kk : ∀ (T1 : gSt), T1 = sI T 114 x.toNatClampNeg v → ∀ (H1 : Heap) (locs1 : List Loc), va_P (dC, dI) cls_all (gW LM ad km T1) H1 → va_D A (gW LM ad km T1) → va_S A H0 H1 locs1 → W p l e R s m args below meth c H1 locs1 cells slots Q (F0 m (pc + 1) ls rest)) : W p l e R s m args below meth c H locs cells slots Q (F0 m pc ls (.int v :: .int x :: .ref (ad 69) :: rest)) := gw_iast okM hx hb hK hP hD hS 68 114 41 69 (Nat.le_of_ble_eq_true rfl) rfl rfl rfl rfl rfl hin hdg kk
theorem rd_Model_225 (hx : p.tables.exec = Jvm.exec) (hb : c.code = cc) (hT : ∀ w ∈ lw_good, w.before args s = true) (hown : s.vm.findClass R_Model = some m.cls) (hK : va_K (dC, dI) cls_all (gT LM km) s) (hP : va_P (dC, dI) cls_all (gW LM ad km T) H) (hdg : decode cc pc = .ok (.getfield 225, 3)) (kk : W p l e R s m args below meth c H locs cells slots Q (F0 m (pc + 3) ls (.ref (ad 71) :: rest))) : W p l e R s m args below meth c H locs cells slots Q (F0 m pc ls (.ref (ad 0) :: rest)) := gw_get hx hb hT i_Model hown hK hP 0 116 116 (Nat.le_of_ble_eq_true rfl) rfl rfl (Nat.le_of_ble_eq_true rfl) rfl (gv_a rfl) (hT _ fl_Model_225) (fun _ h9 => h9) hdg kk
theorem laM_70 (hx : p.tables.exec = Jvm.exec) (hb : c.code = cc) (hK : va_K (dC, dI) cls_all (gT LM km) s) (hP : va_P (dC, dI) cls_all (gW LM ad km T) H) {x : Int32} (hin : inb x 41) (hdg : decode cc pc = .ok (.iaload, 1)) (kk : W p l e R s m args below meth c H locs cells slots Q (F0 m (pc + 1) ls (.int (T.1 116 x.toNatClampNeg) :: rest))) : W p l e R s m args below meth c H locs cells slots Q (F0 m pc ls (.int x :: .ref (ad 71) :: rest)) := gw_iald hx hb hK hP 70 116 41 71 (Nat.le_of_ble_eq_true rfl) rfl rfl rfl rfl rfl hin hdg kk
theorem saM_70 (hx : p.tables.exec = Jvm.exec) (hb : c.code = cc) (hK : va_K (dC, dI) cls_all (gT LM km) s) (hP : va_P (dC, dI) cls_all (gW LM ad km T) H) (hD : va_D A (gW LM ad km T)) (hS : va_S A H0 H locs) {x : Int32} {v : Int32} (hin : inb x 41) (hdg : decode cc pc = .ok (.iastore, 1)) (kk : ∀ (T1 : gSt), T1 = sI T 116 x.toNatClampNeg v → ∀ (H1 : Heap) (locs1 : List Loc), va_P (dC, dI) cls_all (gW LM ad km T1) H1 → va_D A (gW LM ad km T1) → va_S A H0 H1 locs1 → W p l e R s m args below meth c H1 locs1 cells slots Q (F0 m (pc + 1) ls rest)) : W p l e R s m args below meth c H locs cells slots Q (F0 m pc ls (.int v :: .int x :: .ref (ad 71) :: rest)) := gw_iast okM hx hb hK hP hD hS 70 116 41 71 (Nat.le_of_ble_eq_true rfl) rfl rfl rfl rfl rfl hin hdg kk
end GV
def mt_Model_raise (l : Launch) (dC : Nat → ClassId) (dI : Nat → Nat → Nat) (ea ev ad : Nat → Nat) (km : Nat → ClassId) (F : gF) (d : Nat) : Prop := ∀ (T : gSt) (p1 : Int32) (r : Int32) (rl : Int64) (T' : gSt), F 114 T [p1] [] = some (r, rl, T') → GMv l dC dI LM ad km ea ev y_Model_raise w_Model_raise (rmD d) [.ref (ad 0), .int p1] T T'
theorem pd_Model_raise : (y_Model_raise).cls = R_Model ∧ (y_Model_raise).cls ≠ "java/lang/invoke/MethodHandle" ∧ (y_Model_raise).cls ≠ "java/lang/invoke/VarHandle" ∧ (parseMethodDescriptor (y_Model_raise).desc).map (fun d => d.parameters.length) = some 1 := by decide +kernel
def mt_Model_make (l : Launch) (dC : Nat → ClassId) (dI : Nat → Nat → Nat) (ea ev ad : Nat → Nat) (km : Nat → ClassId) (F : gF) (d : Nat) : Prop := ∀ (T : gSt) (p1 : Int32) (p2 : Int64) (p3 : Int32) (r : Int32) (rl : Int64) (T' : gSt), F 110 T [p1, p3] [p2] = some (r, rl, T') → GMi l dC dI LM ad km ea ev y_Model_make w_Model_make (rmD d) [.ref (ad 0), .int p1, .long p2, .int p3] T r T'
theorem pd_Model_make : (y_Model_make).cls = R_Model ∧ (y_Model_make).cls ≠ "java/lang/invoke/MethodHandle" ∧ (y_Model_make).cls ≠ "java/lang/invoke/VarHandle" ∧ (parseMethodDescriptor (y_Model_make).desc).map (fun d => d.parameters.length) = some 3 := by decide +kernel
def mt_Model_placeOf (l : Launch) (dC : Nat → ClassId) (dI : Nat → Nat → Nat) (ea ev ad : Nat → Nat) (km : Nat → ClassId) (F : gF) (d : Nat) : Prop := ∀ (T : gSt) (p1 : Int32) (p2 : Int32) (p3 : Int32) (r : Int32) (rl : Int64) (T' : gSt), F 111 T [p1, p2, p3] [] = some (r, rl, T') → GMi l dC dI LM ad km ea ev y_Model_placeOf w_Model_placeOf (rmD d) [.ref (ad 0), .int p1, .int p2, .int p3] T r T'
theorem pd_Model_placeOf : (y_Model_placeOf).cls = R_Model ∧ (y_Model_placeOf).cls ≠ "java/lang/invoke/MethodHandle" ∧ (y_Model_placeOf).cls ≠ "java/lang/invoke/VarHandle" ∧ (parseMethodDescriptor (y_Model_placeOf).desc).map (fun d => d.parameters.length) = some 3 := by decide +kernel
def mt_Model_pushPlace (l : Launch) (dC : Nat → ClassId) (dI : Nat → Nat → Nat) (ea ev ad : Nat → Nat) (km : Nat → ClassId) (F : gF) (d : Nat) : Prop := ∀ (T : gSt) (p1 : Int32) (p2 : Int32) (p3 : Int32) (r : Int32) (rl : Int64) (T' : gSt), F 112 T [p1, p2, p3] [] = some (r, rl, T') → GMv l dC dI LM ad km ea ev y_Model_pushPlace w_Model_pushPlace (rmD d) [.ref (ad 0), .int p1, .int p2, .int p3] T T'
theorem pd_Model_pushPlace : (y_Model_pushPlace).cls = R_Model ∧ (y_Model_pushPlace).cls ≠ "java/lang/invoke/MethodHandle" ∧ (y_Model_pushPlace).cls ≠ "java/lang/invoke/VarHandle" ∧ (parseMethodDescriptor (y_Model_pushPlace).desc).map (fun d => d.parameters.length) = some 3 := by decide +kernel
def mt_Model_put (l : Launch) (dC : Nat → ClassId) (dI : Nat → Nat → Nat) (ea ev ad : Nat → Nat) (km : Nat → ClassId) (F : gF) (d : Nat) : Prop := ∀ (T : gSt) (p1 : Int32) (p2 : Int32) (p3 : Int32) (p4 : Int32) (r : Int32) (rl : Int64) (T' : gSt), F 113 T [p1, p2, p3, p4] [] = some (r, rl, T') → GMv l dC dI LM ad km ea ev y_Model_put w_Model_put (rmD d) [.ref (ad 0), .int p1, .int p2, .int p3, .int p4] T T'
theorem pd_Model_put : (y_Model_put).cls = R_Model ∧ (y_Model_put).cls ≠ "java/lang/invoke/MethodHandle" ∧ (y_Model_put).cls ≠ "java/lang/invoke/VarHandle" ∧ (parseMethodDescriptor (y_Model_put).desc).map (fun d => d.parameters.length) = some 4 := by decide +kernel
def mt_Model_var (l : Launch) (dC : Nat → ClassId) (dI : Nat → Nat → Nat) (ea ev ad : Nat → Nat) (km : Nat → ClassId) (F : gF) (d : Nat) : Prop := ∀ (T : gSt) (p1 : Int32) (r : Int32) (rl : Int64) (T' : gSt), F 115 T [p1] [] = some (r, rl, T') → GMi l dC dI LM ad km ea ev y_Model_var w_Model_var (rmD d) [.ref (ad 0), .int p1] T r T'
theorem pd_Model_var : (y_Model_var).cls = R_Model ∧ (y_Model_var).cls ≠ "java/lang/invoke/MethodHandle" ∧ (y_Model_var).cls ≠ "java/lang/invoke/VarHandle" ∧ (parseMethodDescriptor (y_Model_var).desc).map (fun d => d.parameters.length) = some 1 := by decide +kernel
def mt_Model_regionIndex (l : Launch) (dC : Nat → ClassId) (dI : Nat → Nat → Nat) (ea ev ad : Nat → Nat) (km : Nat → ClassId) (F : gF) (d : Nat) : Prop := ∀ (T : gSt) (p1 : Int32) (r : Int32) (rl : Int64) (T' : gSt), F 116 T [p1] [] = some (r, rl, T') → GMi l dC dI LM ad km ea ev y_Model_regionIndex w_Model_regionIndex (rmD d) [.ref (ad 0), .int p1] T r T'
theorem pd_Model_regionIndex : (y_Model_regionIndex).cls = R_Model ∧ (y_Model_regionIndex).cls ≠ "java/lang/invoke/MethodHandle" ∧ (y_Model_regionIndex).cls ≠ "java/lang/invoke/VarHandle" ∧ (parseMethodDescriptor (y_Model_regionIndex).desc).map (fun d => d.parameters.length) = some 1 := by decide +kernel
def mt_Model_run_IIII (l : Launch) (dC : Nat → ClassId) (dI : Nat → Nat → Nat) (ea ev ad : Nat → Nat) (km : Nat → ClassId) (F : gF) (d : Nat) : Prop := ∀ (T : gSt) (p1 : Int32) (p2 : Int32) (p3 : Int32) (p4 : Int32) (r : Int32) (rl : Int64) (T' : gSt), F 118 T [p1, p2, p3, p4] [] = some (r, rl, T') → GMv l dC dI LM ad km ea ev y_Model_run_IIII w_Model_run_IIII (rmD d) [.ref (ad 0), .int p1, .int p2, .int p3, .int p4] T T'
theorem pd_Model_run_IIII : (y_Model_run_IIII).cls = R_Model ∧ (y_Model_run_IIII).cls ≠ "java/lang/invoke/MethodHandle" ∧ (y_Model_run_IIII).cls ≠ "java/lang/invoke/VarHandle" ∧ (parseMethodDescriptor (y_Model_run_IIII).desc).map (fun d => d.parameters.length) = some 4 := by decide +kernel
def mt_Model_goOn (l : Launch) (dC : Nat → ClassId) (dI : Nat → Nat → Nat) (ea ev ad : Nat → Nat) (km : Nat → ClassId) (F : gF) (d : Nat) : Prop := ∀ (T : gSt)  (r : Int32) (rl : Int64) (T' : gSt), F 117 T [] [] = some (r, rl, T') → GMv l dC dI LM ad km ea ev y_Model_goOn w_Model_goOn (rmD d) [.ref (ad 0)] T T'
theorem pd_Model_goOn : (y_Model_goOn).cls = R_Model ∧ (y_Model_goOn).cls ≠ "java/lang/invoke/MethodHandle" ∧ (y_Model_goOn).cls ≠ "java/lang/invoke/VarHandle" ∧ (parseMethodDescriptor (y_Model_goOn).desc).map (fun d => d.parameters.length) = some 0 := by decide +kernel
def mt_Model_input_ (l : Launch) (dC : Nat → ClassId) (dI : Nat → Nat → Nat) (ea ev ad : Nat → Nat) (km : Nat → ClassId) (F : gF) (d : Nat) : Prop := ∀ (T : gSt)  (r : Int32) (rl : Int64) (T' : gSt), F 119 T [] [] = some (r, rl, T') → GMi l dC dI LM ad km ea ev y_Model_input_ w_Model_input_ (rmD d) [.ref (ad 0)] T r T'
theorem pd_Model_input_ : (y_Model_input_).cls = R_Model ∧ (y_Model_input_).cls ≠ "java/lang/invoke/MethodHandle" ∧ (y_Model_input_).cls ≠ "java/lang/invoke/VarHandle" ∧ (parseMethodDescriptor (y_Model_input_).desc).map (fun d => d.parameters.length) = some 0 := by decide +kernel
def mt_Model_touch (l : Launch) (dC : Nat → ClassId) (dI : Nat → Nat → Nat) (ea ev ad : Nat → Nat) (km : Nat → ClassId) (F : gF) (d : Nat) : Prop := ∀ (T : gSt) (p1 : Int32) (p2 : Int32) (p3 : Int32) (r : Int32) (rl : Int64) (T' : gSt), F 125 T [p1, p2, p3] [] = some (r, rl, T') → GMv l dC dI LM ad km ea ev y_Model_touch w_Model_touch (rmD d) [.ref (ad 0), .int p1, .int p2, .int p3] T T'
theorem pd_Model_touch : (y_Model_touch).cls = R_Model ∧ (y_Model_touch).cls ≠ "java/lang/invoke/MethodHandle" ∧ (y_Model_touch).cls ≠ "java/lang/invoke/VarHandle" ∧ (parseMethodDescriptor (y_Model_touch).desc).map (fun d => d.parameters.length) = some 3 := by decide +kernel
def mt_Model_makeBy (l : Launch) (dC : Nat → ClassId) (dI : Nat → Nat → Nat) (ea ev ad : Nat → Nat) (km : Nat → ClassId) (F : gF) (d : Nat) : Prop := ∀ (T : gSt) (p1 : Int32) (p2 : Int32) (p3 : Int32) (p4 : Int32) (r : Int32) (rl : Int64) (T' : gSt), F 122 T [p1, p2, p3, p4] [] = some (r, rl, T') → GMv l dC dI LM ad km ea ev y_Model_makeBy w_Model_makeBy (rmD d) [.ref (ad 0), .int p1, .int p2, .int p3, .int p4] T T'
theorem pd_Model_makeBy : (y_Model_makeBy).cls = R_Model ∧ (y_Model_makeBy).cls ≠ "java/lang/invoke/MethodHandle" ∧ (y_Model_makeBy).cls ≠ "java/lang/invoke/VarHandle" ∧ (parseMethodDescriptor (y_Model_makeBy).desc).map (fun d => d.parameters.length) = some 4 := by decide +kernel
def mt_Model_invoke (l : Launch) (dC : Nat → ClassId) (dI : Nat → Nat → Nat) (ea ev ad : Nat → Nat) (km : Nat → ClassId) (F : gF) (d : Nat) : Prop := ∀ (T : gSt) (p1 : Int32) (p2 : Int32) (r : Int32) (rl : Int64) (T' : gSt), F 120 T [p1, p2] [] = some (r, rl, T') → GMv l dC dI LM ad km ea ev y_Model_invoke w_Model_invoke (rmD d) [.ref (ad 0), .int p1, .int p2] T T'
theorem pd_Model_invoke : (y_Model_invoke).cls = R_Model ∧ (y_Model_invoke).cls ≠ "java/lang/invoke/MethodHandle" ∧ (y_Model_invoke).cls ≠ "java/lang/invoke/VarHandle" ∧ (parseMethodDescriptor (y_Model_invoke).desc).map (fun d => d.parameters.length) = some 2 := by decide +kernel
def mt_Model_reckon (l : Launch) (dC : Nat → ClassId) (dI : Nat → Nat → Nat) (ea ev ad : Nat → Nat) (km : Nat → ClassId) (F : gF) (d : Nat) : Prop := ∀ (T : gSt) (p1 : Int32) (p2 : Int32) (r : Int32) (rl : Int64) (T' : gSt), F 124 T [p1, p2] [] = some (r, rl, T') → GMv l dC dI LM ad km ea ev y_Model_reckon w_Model_reckon (rmD d) [.ref (ad 0), .int p1, .int p2] T T'
theorem pd_Model_reckon : (y_Model_reckon).cls = R_Model ∧ (y_Model_reckon).cls ≠ "java/lang/invoke/MethodHandle" ∧ (y_Model_reckon).cls ≠ "java/lang/invoke/VarHandle" ∧ (parseMethodDescriptor (y_Model_reckon).desc).map (fun d => d.parameters.length) = some 2 := by decide +kernel
def mt_Model_back (l : Launch) (dC : Nat → ClassId) (dI : Nat → Nat → Nat) (ea ev ad : Nat → Nat) (km : Nat → ClassId) (F : gF) (d : Nat) : Prop := ∀ (T : gSt)  (r : Int32) (rl : Int64) (T' : gSt), F 121 T [] [] = some (r, rl, T') → GMv l dC dI LM ad km ea ev y_Model_back w_Model_back (rmD d) [.ref (ad 0)] T T'
theorem pd_Model_back : (y_Model_back).cls = R_Model ∧ (y_Model_back).cls ≠ "java/lang/invoke/MethodHandle" ∧ (y_Model_back).cls ≠ "java/lang/invoke/VarHandle" ∧ (parseMethodDescriptor (y_Model_back).desc).map (fun d => d.parameters.length) = some 0 := by decide +kernel
set_option maxHeartbeats 4000000 in
set_option maxRecDepth 100000 in
theorem sp_Model_make (l : Launch) (dC : Nat → ClassId) (dI : Nat → Nat → Nat) (ea ev ad : Nat → Nat) (km : Nat → ClassId) (F : gF) (nf d : Nat) (h_Model_raise : mt_Model_raise l dC dI ea ev ad km F d) (T0 : gSt) (p1 : Int32) (p2 : Int64) (p3 : Int32) (r0 : Int32) (rl0 : Int64) (T9 : gSt) (hR : rb_Model_make F nf T0 p1 p2 p3 = some (r0, rl0, T9)) : GMi l dC dI LM ad km ea ev y_Model_make w_Model_make (rmD (d + 1)) [.ref (ad 0), .int p1, .long p2, .int p3] T0 r0 T9 := by
  intro sz
  refine Met.ofW (cc := b_Model_make) (maxL := 10) (ret := (some .int)) (by decide) rfl ?_
  intro p e s m args below meth c s₁ B hml hv
  obtain ⟨rfl, hsz, hP, hK, hD0, hnw, henv⟩ := hv
  have hx := B.exec
  have hb := B.bytes
  have hr := B.returns
  have hT : ∀ w ∈ lw_good, w.before _ s = true := fun w h => atoms_spec (ws := w_Model_make) B.pre w (List.mem_cons_of_mem _ h)
  have hown : s.vm.findClass R_Model = some m.cls := findClass_of_methodNamed B.named
  subst hsz
  have hD := hD0.self (sz := s.heap.size)
  clear hD0
  generalize hAe : va_A (gW LM ad km T0) s.heap.size = A at hD henv ⊢
  have hA : ∀ q : Nat, s.heap.size ≤ q → A q := fun q h => by rw [← hAe]; exact Or.inr h
  have hS : va_S A s.heap s.heap [] := va_S.rf
  have hl := lv_entry ([.ref (ad 0), .int p1, .long p2, .int p3]) (n := 10) (Nat.le_of_ble_eq_true rfl)
  rw [lg_entry_eq]
  generalize (lg_sl ([.ref (ad 0), .int p1, .long p2, .int p3]) ++ List.replicate (10 - (lg_sl ([.ref (ad 0), .int p1, .long p2, .int p3])).length) Slot.unset).toArray = ls at hl ⊢
  have hl : lv_has ls 10 [(0, .ref (ad 0)), (1, .int p1), (2, .long p2), (4, .int p3)] := hl
  obtain ⟨G, hG⟩ : ∃ G : Nat → List (Nat × Value) → List Value → gSt → Prop, G = (fun pc lv stk T => ∀ (H : Heap) (locs : List Loc), va_P (dC, dI) cls_all (gW LM ad km T) H → va_D A (gW LM ad km T) → va_S A s.heap H locs → ∀ (ls : Array Slot), lv_has ls 10 lv → W p l e (headSpec w_Model_make (rmD (d + 1))).room s m ([.ref (ad 0), .int p1, .long p2, .int p3] : List Value).toArray below meth c H locs 0 0 (MQ below (va_Qi (fun (z : Int32) (_ : Unit) => z = r0) (fun _ t => gPost dC dI LM ad km T9 A t) A) ([.ref (ad 0), .int p1, .long p2, .int p3] : List Value).toArray s 0 0 A) (F0 m pc ls stk)) := ⟨_, rfl⟩
  have lb_235 : ∀ (n : Nat) (T : gSt) (x4 : Int32) (x7 : Int32) (x8 : Int32), rl_Model_make_235 F nf n T x4 x7 x8 = some (r0, rl0, T9) → G 235 [(0, .ref (ad 0)), (4, .int x4), (7, .int x7), (8, .int x8)] [] T := by
    intro n
    induction n with
    | zero => intro T x4 x7 x8 hR; rw [rl_Model_make_235] at hR; cases hR
    | succ n ih =>
      intro T x4 x7 x8 hR; rw [rl_Model_make_235] at hR; rw [hG]; intro H locs hP hD hS ls hl
      refine lv_iload hx hb d_Model_make_235 (lv_at hl 3 rfl) ?_
      refine lv_iload hx hb d_Model_make_237 (lv_at hl 1 rfl) ?_
      refine lv_icmp_ge (tgt := 296) hx hb d_Model_make_239 (by decide) (fun c42 => ?_) (fun c42 => ?_)
      · replace hR := if_p c42 hR
        refine lv_iload hx hb d_Model_make_296 (lv_at hl 2 rfl) ?_
        obtain ⟨e1, -, e3⟩ := re_e hR
        subst e1; subst e3
        exact W.iret (v := x7) hx hb hr (fun t ht hW => ⟨⟨x7, (), rfl, rfl, by rw [ht]; exact hP, va_K.moved hW.alike hK, hD⟩, hS.F ht⟩) hS.2.2 d_Model_make_298
      · replace hR := if_n c42 hR
        refine lv_aload_n hx hb d_Model_make_242 rfl (lv_at hl 0 rfl) ?_
        refine rd_Model_841 hx hb hT hown hK hP d_Model_make_243 ?_
        refine lv_topi (fun z44 e44 => ?_)
        replace hR := vK_e e44 hR
        refine lv_istore (lv' := [(9, .int z44), (0, .ref (ad 0)), (4, .int x4), (7, .int x7), (8, .int x8)]) hx hb d_Model_make_246 hl (by decide) rfl (fun ls hl => ?_)
        refine lv_aload_n hx hb d_Model_make_248 rfl (lv_at hl 1 rfl) ?_
        refine lv_aload_n hx hb d_Model_make_249 rfl (lv_at hl 1 rfl) ?_
        refine rd_Model_304 hx hb hT hown hK hP d_Model_make_250 ?_
        refine lv_iload hx hb d_Model_make_253 (lv_at hl 0 rfl) ?_
        replace hR := gd_e hR
        obtain ⟨b45, hR⟩ := hR
        refine laM_96 hx hb hK hP b45 d_Model_make_255 ?_
        refine wr_Model_841 hx hb hT hown hK hP hD hS d_Model_make_256 (fun T46 eT H locs hP hD hS => ?_)
        replace hR := stK_e eT hR
        clear eT
        refine lv_aload_n hx hb d_Model_make_259 rfl (lv_at hl 1 rfl) ?_
        refine rd_Model_304 hx hb hT hown hK hP d_Model_make_260 ?_
        refine lv_iload hx hb d_Model_make_263 (lv_at hl 0 rfl) ?_
        refine lv_aload_n hx hb d_Model_make_265 rfl (lv_at hl 1 rfl) ?_
        refine rd_Model_276 hx hb hT hown hK hP d_Model_make_266 ?_
        refine lv_iload hx hb d_Model_make_269 (lv_at hl 3 rfl) ?_
        replace hR := gd_e hR
        obtain ⟨b47, hR⟩ := hR
        refine laM_87 hx hb hK hP b47 d_Model_make_271 ?_
        replace hR := gd_e hR
        obtain ⟨b48, hR⟩ := hR
        refine saM_96 hx hb hK hP hD hS b48 d_Model_make_272 (fun T48 eT H locs hP hD hS => ?_)
        replace hR := stK_e eT hR
        clear eT
        refine lv_aload_n hx hb d_Model_make_273 rfl (lv_at hl 1 rfl) ?_
        refine rd_Model_276 hx hb hT hown hK hP d_Model_make_274 ?_
        refine lv_iload hx hb d_Model_make_277 (lv_at hl 3 rfl) ?_
        refine lv_iload hx hb d_Model_make_279 (lv_at hl 0 rfl) ?_
        replace hR := gd_e hR
        obtain ⟨b49, hR⟩ := hR
        refine saM_87 hx hb hK hP hD hS b49 d_Model_make_281 (fun T49 eT H locs hP hD hS => ?_)
        replace hR := stK_e eT hR
        clear eT
        refine lv_aload_n hx hb d_Model_make_282 rfl (lv_at hl 1 rfl) ?_
        refine rd_Model_300 hx hb hT hown hK hP d_Model_make_283 ?_
        refine lv_iload hx hb d_Model_make_286 (lv_at hl 0 rfl) ?_
        refine lv_iconst (v := 0) hx hb d_Model_make_288 (by decide) ?_
        replace hR := gd_e hR
        obtain ⟨b50, hR⟩ := hR
        refine saM_95 hx hb hK hP hD hS (by decide) b50 d_Model_make_289 (fun T50 eT H locs hP hD hS => ?_)
        replace hR := stK_e eT hR
        clear eT
        obtain ⟨z51, e51⟩ : ∃ y : Int32, y = x8 + (1 : Int32) := ⟨_, rfl⟩
        replace hR := vK_e e51 hR
        refine lv_iinc (v := z51) (lv' := [(8, .int z51), (9, .int z44), (0, .ref (ad 0)), (4, .int x4), (7, .int x7)]) hx hb d_Model_make_290 hl (k := 4) rfl (by rw [e51]; rfl) (by decide) rfl (fun ls hl => ?_)
        refine lv_goto (tgt := 235) hx hb d_Model_make_293 (by decide) ?_
        have g := ih T50 x4 x7 z51 hR
        rw [hG] at g
        exact g _ _ hP hD hS _ (lv_sub hl [2, 3, 4, 0] rfl)
  have lb_162 : ∀ (n : Nat) (T : gSt) (x1 : Int32) (x4 : Int32) (x7 : Int32), rl_Model_make_162 F nf n T x1 x4 x7 = some (r0, rl0, T9) → G 162 [(0, .ref (ad 0)), (1, .int x1), (4, .int x4), (7, .int x7)] [] T := by
    intro n
    induction n with
    | zero => intro T x1 x4 x7 hR; rw [rl_Model_make_162] at hR; cases hR
    | succ n ih =>
      intro T x1 x4 x7 hR; rw [rl_Model_make_162] at hR; rw [hG]; intro H locs hP hD hS ls hl
      refine lv_aload_n hx hb d_Model_make_162 rfl (lv_at hl 0 rfl) ?_
      refine rd_Model_273 hx hb hT hown hK hP d_Model_make_163 ?_
      refine lv_iload hx hb d_Model_make_166 (lv_at hl 3 rfl) ?_
      replace hR := gd_e hR
      obtain ⟨b33, hR⟩ := hR
      refine laM_86 hx hb hK hP b33 d_Model_make_168 ?_
      refine lv_if_eq (tgt := 178) hx hb d_Model_make_169 (by decide) (fun c34 => ?_) (fun c34 => ?_)
      · replace hR := if_p c34 hR
        refine lv_aload_n hx hb d_Model_make_178 rfl (lv_at hl 0 rfl) ?_
        refine lv_dup hx hb d_Model_make_179 rfl ?_
        refine rd_Model_850 hx hb hT hown hK hP d_Model_make_180 ?_
        refine lv_iconst (v := 1) hx hb d_Model_make_183 (by decide) ?_
        refine lv_iadd hx hb d_Model_make_184 ?_
        refine wr_Model_850 hx hb hT hown hK hP hD hS d_Model_make_185 (fun T35 eT H locs hP hD hS => ?_)
        replace hR := stK_e eT hR
        clear eT
        refine lv_aload_n hx hb d_Model_make_188 rfl (lv_at hl 0 rfl) ?_
        refine rd_Model_273 hx hb hT hown hK hP d_Model_make_189 ?_
        refine lv_iload hx hb d_Model_make_192 (lv_at hl 3 rfl) ?_
        refine lv_aload_n hx hb d_Model_make_194 rfl (lv_at hl 0 rfl) ?_
        refine rd_Model_850 hx hb hT hown hK hP d_Model_make_195 ?_
        replace hR := gd_e hR
        obtain ⟨b36, hR⟩ := hR
        refine saM_86 hx hb hK hP hD hS b36 d_Model_make_198 (fun T36 eT H locs hP hD hS => ?_)
        replace hR := stK_e eT hR
        clear eT
        refine lv_aload_n hx hb d_Model_make_199 rfl (lv_at hl 0 rfl) ?_
        refine rd_Model_282 hx hb hT hown hK hP d_Model_make_200 ?_
        refine lv_iload hx hb d_Model_make_203 (lv_at hl 3 rfl) ?_
        refine lv_iload_n hx hb d_Model_make_205 rfl (lv_at hl 1 rfl) ?_
        replace hR := gd_e hR
        obtain ⟨b37, hR⟩ := hR
        refine saM_89 hx hb hK hP hD hS b37 d_Model_make_206 (fun T37 eT H locs hP hD hS => ?_)
        replace hR := stK_e eT hR
        clear eT
        refine lv_aload_n hx hb d_Model_make_207 rfl (lv_at hl 0 rfl) ?_
        refine rd_Model_279 hx hb hT hown hK hP d_Model_make_208 ?_
        refine lv_iload hx hb d_Model_make_211 (lv_at hl 3 rfl) ?_
        refine lv_iload hx hb d_Model_make_213 (lv_at hl 2 rfl) ?_
        replace hR := gd_e hR
        obtain ⟨b38, hR⟩ := hR
        refine saM_88 hx hb hK hP hD hS b38 d_Model_make_215 (fun T38 eT H locs hP hD hS => ?_)
        replace hR := stK_e eT hR
        clear eT
        refine lv_aload_n hx hb d_Model_make_216 rfl (lv_at hl 0 rfl) ?_
        refine rd_Model_285 hx hb hT hown hK hP d_Model_make_217 ?_
        refine lv_iload hx hb d_Model_make_220 (lv_at hl 3 rfl) ?_
        refine lv_iconst (v := (-1)) hx hb d_Model_make_222 (by decide) ?_
        replace hR := gd_e hR
        obtain ⟨b39, hR⟩ := hR
        refine saM_90 hx hb hK hP hD hS b39 d_Model_make_223 (fun T39 eT H locs hP hD hS => ?_)
        replace hR := stK_e eT hR
        clear eT
        refine lv_aload_n hx hb d_Model_make_224 rfl (lv_at hl 0 rfl) ?_
        refine rd_Model_276 hx hb hT hown hK hP d_Model_make_225 ?_
        refine lv_iload hx hb d_Model_make_228 (lv_at hl 3 rfl) ?_
        refine lv_iconst (v := (-1)) hx hb d_Model_make_230 (by decide) ?_
        replace hR := gd_e hR
        obtain ⟨b40, hR⟩ := hR
        refine saM_87 hx hb hK hP hD hS b40 d_Model_make_231 (fun T40 eT H locs hP hD hS => ?_)
        replace hR := stK_e eT hR
        clear eT
        refine lv_iconst (v := 0) hx hb d_Model_make_232 (by decide) ?_
        refine lv_istore (lv' := [(8, .int (0 : Int32)), (0, .ref (ad 0)), (1, .int x1), (4, .int x4), (7, .int x7)]) hx hb d_Model_make_233 hl (by decide) rfl (fun ls hl => ?_)
        have g := lb_235 nf T40 x4 x7 (0 : Int32) hR
        rw [hG] at g
        exact g _ _ hP hD hS _ (lv_sub hl [1, 3, 4, 0] rfl)
      · replace hR := if_n c34 hR
        obtain ⟨z41, e41⟩ : ∃ y : Int32, y = x7 + (1 : Int32) := ⟨_, rfl⟩
        replace hR := vK_e e41 hR
        refine lv_iinc (v := z41) (lv' := [(7, .int z41), (0, .ref (ad 0)), (1, .int x1), (4, .int x4)]) hx hb d_Model_make_172 hl (k := 3) rfl (by rw [e41]; rfl) (by decide) rfl (fun ls hl => ?_)
        refine lv_goto (tgt := 162) hx hb d_Model_make_175 (by decide) ?_
        have g := ih T x1 x4 z41 hR
        rw [hG] at g
        exact g _ _ hP hD hS _ (lv_sub hl [1, 2, 3, 0] rfl)
  have lb_109 : ∀ (T : gSt) (x1 : Int32) (x4 : Int32) (x5 : Int32), rj_Model_make_109 F nf T x1 x4 x5 = some (r0, rl0, T9) → G 109 [(0, .ref (ad 0)), (1, .int x1), (4, .int x4), (5, .int x5)] [] T := by
    intro T x1 x4 x5 hR; unfold rj_Model_make_109 at hR; rw [hG]; intro H locs hP hD hS ls hl
    refine lv_aload_n hx hb d_Model_make_109 rfl (lv_at hl 0 rfl) ?_
    refine lv_dup hx hb d_Model_make_110 rfl ?_
    refine rd_Model_814 hx hb hT hown hK hP d_Model_make_111 ?_
    refine lv_iconst (v := 1) hx hb d_Model_make_114 (by decide) ?_
    refine lv_iadd hx hb d_Model_make_115 ?_
    refine wr_Model_814 hx hb hT hown hK hP hD hS d_Model_make_116 (fun T24 eT H locs hP hD hS => ?_)
    replace hR := stK_e eT hR
    clear eT
    refine lv_aload_n hx hb d_Model_make_119 rfl (lv_at hl 0 rfl) ?_
    refine rd_Model_270 hx hb hT hown hK hP d_Model_make_120 ?_
    refine lv_iload_n hx hb d_Model_make_123 rfl (lv_at hl 1 rfl) ?_
    refine lv_dup2_11 hx hb d_Model_make_124 rfl rfl ?_
    replace hR := gd_e hR
    obtain ⟨b25, hR⟩ := hR
    refine laM_85 hx hb hK hP b25 d_Model_make_125 ?_
    refine lv_iconst (v := 1) hx hb d_Model_make_126 (by decide) ?_
    refine lv_iadd hx hb d_Model_make_127 ?_
    replace hR := gd_e hR
    obtain ⟨b26, hR⟩ := hR
    refine saM_85 hx hb hK hP hD hS b26 d_Model_make_128 (fun T26 eT H locs hP hD hS => ?_)
    replace hR := stK_e eT hR
    clear eT
    refine lv_iload hx hb d_Model_make_129 (lv_at hl 3 rfl) ?_
    refine lv_if_ne (tgt := 137) hx hb d_Model_make_131 (by decide) (fun c27 => ?_) (fun c27 => ?_)
    · replace hR := if_n c27 hR
      refine lv_aload_n hx hb d_Model_make_137 rfl (lv_at hl 0 rfl) ?_
      refine rd_Model_264 hx hb hT hown hK hP d_Model_make_138 ?_
      refine lv_iload_n hx hb d_Model_make_141 rfl (lv_at hl 1 rfl) ?_
      refine lv_dup2_11 hx hb d_Model_make_142 rfl rfl ?_
      replace hR := gd_e hR
      obtain ⟨b28, hR⟩ := hR
      refine laM_83 hx hb hK hP b28 d_Model_make_143 ?_
      refine lv_iload hx hb d_Model_make_144 (lv_at hl 3 rfl) ?_
      refine lv_iadd hx hb d_Model_make_146 ?_
      replace hR := gd_e hR
      obtain ⟨b29, hR⟩ := hR
      refine saM_83 hx hb hK hP hD hS b29 d_Model_make_147 (fun T29 eT H locs hP hD hS => ?_)
      replace hR := stK_e eT hR
      clear eT
      refine lv_aload_n hx hb d_Model_make_148 rfl (lv_at hl 0 rfl) ?_
      refine rd_Model_267 hx hb hT hown hK hP d_Model_make_149 ?_
      refine lv_iload_n hx hb d_Model_make_152 rfl (lv_at hl 1 rfl) ?_
      refine lv_dup2_11 hx hb d_Model_make_153 rfl rfl ?_
      replace hR := gd_e hR
      obtain ⟨b30, hR⟩ := hR
      refine laM_84 hx hb hK hP b30 d_Model_make_154 ?_
      refine lv_iload hx hb d_Model_make_155 (lv_at hl 3 rfl) ?_
      refine lv_iadd hx hb d_Model_make_157 ?_
      replace hR := gd_e hR
      obtain ⟨b31, hR⟩ := hR
      refine saM_84 hx hb hK hP hD hS b31 d_Model_make_158 (fun T31 eT H locs hP hD hS => ?_)
      replace hR := stK_e eT hR
      clear eT
      refine lv_iconst (v := 0) hx hb d_Model_make_159 (by decide) ?_
      refine lv_istore (lv' := [(7, .int (0 : Int32)), (0, .ref (ad 0)), (1, .int x1), (4, .int x4), (5, .int x5)]) hx hb d_Model_make_160 hl (by decide) rfl (fun ls hl => ?_)
      have g := lb_162 nf T31 x1 x4 (0 : Int32) hR
      rw [hG] at g
      exact g _ _ hP hD hS _ (lv_sub hl [1, 2, 3, 0] rfl)
    · replace hR := if_p c27 hR
      refine lv_bipush (v := (-2)) hx hb d_Model_make_134 (by decide) ?_
      obtain ⟨e1, -, e3⟩ := re_e hR
      subst e1; subst e3
      exact W.iret (v := (-2 : Int32)) hx hb hr (fun t ht hW => ⟨⟨(-2 : Int32), (), rfl, rfl, by rw [ht]; exact hP, va_K.moved hW.alike hK, hD⟩, hS.F ht⟩) hS.2.2 d_Model_make_136
  have lb_77 : ∀ (T : gSt) (x1 : Int32) (x4 : Int32) (x5 : Int32) (x6 : Int32), rj_Model_make_77 F nf T x1 x4 x5 x6 = some (r0, rl0, T9) → G 77 [(0, .ref (ad 0)), (1, .int x1), (4, .int x4), (5, .int x5), (6, .int x6)] [] T := by
    intro T x1 x4 x5 x6 hR; unfold rj_Model_make_77 at hR; rw [hG]; intro H locs hP hD hS ls hl
    refine lv_iload hx hb d_Model_make_77 (lv_at hl 4 rfl) ?_
    refine lv_if_ne (tgt := 109) hx hb d_Model_make_79 (by decide) (fun c19 => ?_) (fun c19 => ?_)
    · replace hR := if_n c19 hR
      have g := lb_109 T x1 x4 x5 hR
      rw [hG] at g
      exact g _ _ hP hD hS _ (lv_sub hl [0, 1, 2, 3] rfl)
    · replace hR := if_p c19 hR
      refine lv_aload_n hx hb d_Model_make_82 rfl (lv_at hl 0 rfl) ?_
      refine lv_dup hx hb d_Model_make_83 rfl ?_
      refine rd_Model_838 hx hb hT hown hK hP d_Model_make_84 ?_
      refine lv_iconst (v := 1) hx hb d_Model_make_87 (by decide) ?_
      refine lv_isub hx hb d_Model_make_88 ?_
      refine wr_Model_838 hx hb hT hown hK hP hD hS d_Model_make_89 (fun T20 eT H locs hP hD hS => ?_)
      replace hR := stK_e eT hR
      clear eT
      refine lv_aload_n hx hb d_Model_make_92 rfl (lv_at hl 0 rfl) ?_
      refine rd_Model_261 hx hb hT hown hK hP d_Model_make_93 ?_
      refine lv_iload_n hx hb d_Model_make_96 rfl (lv_at hl 1 rfl) ?_
      refine lv_dup2_11 hx hb d_Model_make_97 rfl rfl ?_
      replace hR := gd_e hR
      obtain ⟨b21, hR⟩ := hR
      refine laM_82 hx hb hK hP b21 d_Model_make_98 ?_
      refine lv_iconst (v := 1) hx hb d_Model_make_99 (by decide) ?_
      refine lv_iadd hx hb d_Model_make_100 ?_
      replace hR := gd_e hR
      obtain ⟨b22, hR⟩ := hR
      refine saM_82 hx hb hK hP hD hS b22 d_Model_make_101 (fun T22 eT H locs hP hD hS => ?_)
      replace hR := stK_e eT hR
      clear eT
      refine lv_aload_n hx hb d_Model_make_102 rfl (lv_at hl 0 rfl) ?_
      refine rd_Model_264 hx hb hT hown hK hP d_Model_make_103 ?_
      refine lv_iload_n hx hb d_Model_make_106 rfl (lv_at hl 1 rfl) ?_
      refine lv_iconst (v := 0) hx hb d_Model_make_107 (by decide) ?_
      replace hR := gd_e hR
      obtain ⟨b23, hR⟩ := hR
      refine saM_83 hx hb hK hP hD hS b23 d_Model_make_108 (fun T23 eT H locs hP hD hS => ?_)
      replace hR := stK_e eT hR
      clear eT
      have g := lb_109 T23 x1 x4 x5 hR
      rw [hG] at g
      exact g _ _ hP hD hS _ (lv_sub hl [0, 1, 2, 3] rfl)
  have lb_51 : ∀ (T : gSt) (x1 : Int32) (x4 : Int32) (x5 : Int32), rj_Model_make_51 F nf T x1 x4 x5 = some (r0, rl0, T9) → G 51 [(0, .ref (ad 0)), (1, .int x1), (4, .int x4), (5, .int x5)] [] T := by
    intro T x1 x4 x5 hR; unfold rj_Model_make_51 at hR; rw [hG]; intro H locs hP hD hS ls hl
    refine lv_iconst (v := 1) hx hb d_Model_make_51 (by decide) ?_
    refine lv_goto (tgt := 56) hx hb d_Model_make_52 (by decide) ?_
    refine lv_istore (lv' := [(6, .int (1 : Int32)), (0, .ref (ad 0)), (1, .int x1), (4, .int x4), (5, .int x5)]) hx hb d_Model_make_56 hl (by decide) rfl (fun ls hl => ?_)
    refine lv_iload hx hb d_Model_make_58 (lv_at hl 0 rfl) ?_
    refine lv_if_ne (tgt := 77) hx hb d_Model_make_60 (by decide) (fun _ => ?_) (fun c18 => absurd c18 (by decide))
    have g := lb_77 T x1 x4 x5 (1 : Int32) hR
    rw [hG] at g
    exact g _ _ hP hD hS _ (lv_sub hl [1, 2, 3, 4, 0] rfl)
  unfold rb_Model_make at hR
  refine lv_lload_n hx hb d_Model_make_0 rfl (lv_at hl 2 rfl) ?_
  refine lv_aload_n hx hb d_Model_make_1 rfl (lv_at hl 0 rfl) ?_
  refine rd_Model_844 hx hb hT hown hK hP d_Model_make_2 ?_
  refine lv_i2l (v := (T0.1 131 0 : Int32).toInt64) hx hb d_Model_make_5 rfl ?_
  refine W.lcmp hx hb d_Model_make_6 ?_
  refine lv_if_le (tgt := 17) hx hb d_Model_make_7 (by decide) (fun c1 => ?_) (fun c1 => ?_)
  · replace hR := if_p c1 hR
    refine lv_lload_n hx hb d_Model_make_17 rfl (lv_at hl 2 rfl) ?_
    refine lv_l2i (v := (p2 : Int64).toInt32) hx hb d_Model_make_18 rfl ?_
    refine lv_topi (fun z2 e2 => ?_)
    replace hR := vK_e e2 hR
    refine lv_istore (lv' := [(5, .int z2), (0, .ref (ad 0)), (1, .int p1), (2, .long p2), (4, .int p3)]) hx hb d_Model_make_19 hl (by decide) rfl (fun ls hl => ?_)
    refine lv_iload hx hb d_Model_make_21 (lv_at hl 0 rfl) ?_
    refine lv_if_eq (tgt := 51) hx hb d_Model_make_23 (by decide) (fun c3 => ?_) (fun c3 => ?_)
    · replace hR := if_p c3 hR
      have g := lb_51 T0 p1 p3 z2 hR
      rw [hG] at g
      exact g _ _ hP hD hS _ (lv_sub hl [1, 2, 4, 0] rfl)
    · replace hR := if_n c3 hR
      refine lv_aload_n hx hb d_Model_make_26 rfl (lv_at hl 1 rfl) ?_
      refine rd_Model_261 hx hb hT hown hK hP d_Model_make_27 ?_
      refine lv_iload_n hx hb d_Model_make_30 rfl (lv_at hl 2 rfl) ?_
      replace hR := gd_e hR
      obtain ⟨b4, hR⟩ := hR
      refine laM_82 hx hb hK hP b4 d_Model_make_31 ?_
      refine lv_if_le (tgt := 55) hx hb d_Model_make_32 (by decide) (fun c5 => ?_) (fun c5 => ?_)
      · replace hR := if_p c5 hR
        refine lv_iconst (v := 0) hx hb d_Model_make_55 (by decide) ?_
        refine lv_istore (lv' := [(6, .int (0 : Int32)), (5, .int z2), (0, .ref (ad 0)), (1, .int p1), (2, .long p2), (4, .int p3)]) hx hb d_Model_make_56 hl (by decide) rfl (fun ls hl => ?_)
        refine lv_iload hx hb d_Model_make_58 (lv_at hl 0 rfl) ?_
        refine lv_if_ne (tgt := 77) hx hb d_Model_make_60 (by decide) (fun c6 => absurd (by decide) c6) (fun _ => ?_)
        refine lv_aload_n hx hb d_Model_make_63 rfl (lv_at hl 2 rfl) ?_
        refine rd_Model_838 hx hb hT hown hK hP d_Model_make_64 ?_
        refine lv_if_ne (tgt := 77) hx hb d_Model_make_67 (by decide) (fun c7 => ?_) (fun c7 => ?_)
        · replace hR := if_n c7 hR
          have g := lb_77 T0 p1 p3 z2 (0 : Int32) hR
          rw [hG] at g
          exact g _ _ hP hD hS _ (lv_sub hl [2, 3, 5, 1, 0] rfl)
        · replace hR := if_p c7 hR
          refine lv_aload_n hx hb d_Model_make_70 rfl (lv_at hl 2 rfl) ?_
          refine lv_iconst (v := 4) hx hb d_Model_make_71 (by decide) ?_
          refine wr_Model_802 hx hb hT hown hK hP hD hS d_Model_make_72 (fun T8 eT H locs hP hD hS => ?_)
          replace hR := stK_e eT hR
          clear eT
          refine lv_iconst (v := (-1)) hx hb d_Model_make_75 (by decide) ?_
          obtain ⟨e1, -, e3⟩ := re_e hR
          subst e1; subst e3
          exact W.iret (v := (-1 : Int32)) hx hb hr (fun t ht hW => ⟨⟨(-1 : Int32), (), rfl, rfl, by rw [ht]; exact hP, va_K.moved hW.alike hK, hD⟩, hS.F ht⟩) hS.2.2 d_Model_make_76
      · replace hR := if_n c5 hR
        refine lv_aload_n hx hb d_Model_make_35 rfl (lv_at hl 1 rfl) ?_
        refine rd_Model_264 hx hb hT hown hK hP d_Model_make_36 ?_
        refine lv_iload_n hx hb d_Model_make_39 rfl (lv_at hl 2 rfl) ?_
        replace hR := gd_e hR
        obtain ⟨b10, hR⟩ := hR
        refine laM_83 hx hb hK hP b10 d_Model_make_40 ?_
        refine lv_iload hx hb d_Model_make_41 (lv_at hl 0 rfl) ?_
        refine lv_iadd hx hb d_Model_make_43 ?_
        refine lv_aload_n hx hb d_Model_make_44 rfl (lv_at hl 1 rfl) ?_
        refine rd_Model_844 hx hb hT hown hK hP d_Model_make_45 ?_
        refine lv_icmp_gt (tgt := 55) hx hb d_Model_make_48 (by decide) (fun c11 => ?_) (fun c11 => ?_)
        · replace hR := if_p c11 hR
          refine lv_iconst (v := 0) hx hb d_Model_make_55 (by decide) ?_
          refine lv_istore (lv' := [(6, .int (0 : Int32)), (5, .int z2), (0, .ref (ad 0)), (1, .int p1), (2, .long p2), (4, .int p3)]) hx hb d_Model_make_56 hl (by decide) rfl (fun ls hl => ?_)
          refine lv_iload hx hb d_Model_make_58 (lv_at hl 0 rfl) ?_
          refine lv_if_ne (tgt := 77) hx hb d_Model_make_60 (by decide) (fun c12 => absurd (by decide) c12) (fun _ => ?_)
          refine lv_aload_n hx hb d_Model_make_63 rfl (lv_at hl 2 rfl) ?_
          refine rd_Model_838 hx hb hT hown hK hP d_Model_make_64 ?_
          refine lv_if_ne (tgt := 77) hx hb d_Model_make_67 (by decide) (fun c13 => ?_) (fun c13 => ?_)
          · replace hR := if_n c13 hR
            have g := lb_77 T0 p1 p3 z2 (0 : Int32) hR
            rw [hG] at g
            exact g _ _ hP hD hS _ (lv_sub hl [2, 3, 5, 1, 0] rfl)
          · replace hR := if_p c13 hR
            refine lv_aload_n hx hb d_Model_make_70 rfl (lv_at hl 2 rfl) ?_
            refine lv_iconst (v := 4) hx hb d_Model_make_71 (by decide) ?_
            refine wr_Model_802 hx hb hT hown hK hP hD hS d_Model_make_72 (fun T14 eT H locs hP hD hS => ?_)
            replace hR := stK_e eT hR
            clear eT
            refine lv_iconst (v := (-1)) hx hb d_Model_make_75 (by decide) ?_
            obtain ⟨e1, -, e3⟩ := re_e hR
            subst e1; subst e3
            exact W.iret (v := (-1 : Int32)) hx hb hr (fun t ht hW => ⟨⟨(-1 : Int32), (), rfl, rfl, by rw [ht]; exact hP, va_K.moved hW.alike hK, hD⟩, hS.F ht⟩) hS.2.2 d_Model_make_76
        · replace hR := if_n c11 hR
          have g := lb_51 T0 p1 p3 z2 hR
          rw [hG] at g
          exact g _ _ hP hD hS _ (lv_sub hl [1, 2, 4, 0] rfl)
  · replace hR := if_n c1 hR
    refine lv_aload_n hx hb d_Model_make_10 rfl (lv_at hl 0 rfl) ?_
    refine lv_iconst (v := 5) hx hb d_Model_make_11 (by decide) ?_
    replace hR := bi_e hR
    obtain ⟨r16, l16, T16, hc16, hR⟩ := hR
    refine gcV_v (rest := []) ⟨hx, hb, hml, hown, hT⟩ (h_Model_raise _ _ _ _ _ hc16) (cwV 1 hT (gV ml_Model_847 im_Model_raise se_Model_raise ini_Model co_Model_raise) rfl rfl rfl pd_Model_raise ⟨rm_hi, rm_lo (Nat.le_of_ble_eq_true rfl)⟩) hK hP hD hS hA hnw henv (Nat.le_of_ble_eq_true rfl) rfl rfl hl.1 rfl (Nat.le_of_ble_eq_true rfl) d_Model_make_12 ⟨Nat.le_refl _, Nat.le_refl _⟩ (fun H locs hP hD hS => ?_)
    clear hc16
    refine lv_iconst (v := (-1)) hx hb d_Model_make_15 (by decide) ?_
    obtain ⟨e1, -, e3⟩ := re_e hR
    subst e1; subst e3
    exact W.iret (v := (-1 : Int32)) hx hb hr (fun t ht hW => ⟨⟨(-1 : Int32), (), rfl, rfl, by rw [ht]; exact hP, va_K.moved hW.alike hK, hD⟩, hS.F ht⟩) hS.2.2 d_Model_make_16
set_option maxHeartbeats 4000000 in
set_option maxRecDepth 100000 in
theorem sp_Model_placeOf (l : Launch) (dC : Nat → ClassId) (dI : Nat → Nat → Nat) (ea ev ad : Nat → Nat) (km : Nat → ClassId) (F : gF) (nf d : Nat) (T0 : gSt) (p1 : Int32) (p2 : Int32) (p3 : Int32) (r0 : Int32) (rl0 : Int64) (T9 : gSt) (hR : rb_Model_placeOf F nf T0 p1 p2 p3 = some (r0, rl0, T9)) : GMi l dC dI LM ad km ea ev y_Model_placeOf w_Model_placeOf (rmD (d + 1)) [.ref (ad 0), .int p1, .int p2, .int p3] T0 r0 T9 := by
  intro sz
  refine Met.ofW (cc := b_Model_placeOf) (maxL := 6) (ret := (some .int)) (by decide) rfl ?_
  intro p e s m args below meth c s₁ B hml hv
  obtain ⟨rfl, hsz, hP, hK, hD0, hnw, henv⟩ := hv
  have hx := B.exec
  have hb := B.bytes
  have hr := B.returns
  have hT : ∀ w ∈ lw_good, w.before _ s = true := fun w h => atoms_spec (ws := w_Model_placeOf) B.pre w (List.mem_cons_of_mem _ h)
  have hown : s.vm.findClass R_Model = some m.cls := findClass_of_methodNamed B.named
  subst hsz
  have hD := hD0.self (sz := s.heap.size)
  clear hD0
  generalize hAe : va_A (gW LM ad km T0) s.heap.size = A at hD henv ⊢
  have hA : ∀ q : Nat, s.heap.size ≤ q → A q := fun q h => by rw [← hAe]; exact Or.inr h
  have hS : va_S A s.heap s.heap [] := va_S.rf
  have hl := lv_entry ([.ref (ad 0), .int p1, .int p2, .int p3]) (n := 6) (Nat.le_of_ble_eq_true rfl)
  rw [lg_entry_eq]
  generalize (lg_sl ([.ref (ad 0), .int p1, .int p2, .int p3]) ++ List.replicate (6 - (lg_sl ([.ref (ad 0), .int p1, .int p2, .int p3])).length) Slot.unset).toArray = ls at hl ⊢
  have hl : lv_has ls 6 [(0, .ref (ad 0)), (1, .int p1), (2, .int p2), (3, .int p3)] := hl
  obtain ⟨G, hG⟩ : ∃ G : Nat → List (Nat × Value) → List Value → gSt → Prop, G = (fun pc lv stk T => ∀ (H : Heap) (locs : List Loc), va_P (dC, dI) cls_all (gW LM ad km T) H → va_D A (gW LM ad km T) → va_S A s.heap H locs → ∀ (ls : Array Slot), lv_has ls 6 lv → W p l e (headSpec w_Model_placeOf (rmD (d + 1))).room s m ([.ref (ad 0), .int p1, .int p2, .int p3] : List Value).toArray below meth c H locs 0 0 (MQ below (va_Qi (fun (z : Int32) (_ : Unit) => z = r0) (fun _ t => gPost dC dI LM ad km T9 A t) A) ([.ref (ad 0), .int p1, .int p2, .int p3] : List Value).toArray s 0 0 A) (F0 m pc ls stk)) := ⟨_, rfl⟩
  have lb_51 : ∀ (n : Nat) (T : gSt) (x3 : Int32) (x4 : Int32) (x5 : Int32), rl_Model_placeOf_51 F nf n T x3 x4 x5 = some (r0, rl0, T9) → G 51 [(0, .ref (ad 0)), (3, .int x3), (4, .int x4), (5, .int x5)] [] T := by
    intro n
    induction n with
    | zero => intro T x3 x4 x5 hR; rw [rl_Model_placeOf_51] at hR; cases hR
    | succ n ih =>
      intro T x3 x4 x5 hR; rw [rl_Model_placeOf_51] at hR; rw [hG]; intro H locs hP hD hS ls hl
      refine lv_iload hx hb d_Model_placeOf_51 (lv_at hl 3 rfl) ?_
      refine lv_iload_n hx hb d_Model_placeOf_53 rfl (lv_at hl 1 rfl) ?_
      refine lv_icmp_ge (tgt := 72) hx hb d_Model_placeOf_54 (by decide) (fun c17 => ?_) (fun c17 => ?_)
      · replace hR := if_p c17 hR
        refine lv_iload hx hb d_Model_placeOf_72 (lv_at hl 2 rfl) ?_
        obtain ⟨e1, -, e3⟩ := re_e hR
        subst e1; subst e3
        exact W.iret (v := x4) hx hb hr (fun t ht hW => ⟨⟨x4, (), rfl, rfl, by rw [ht]; exact hP, va_K.moved hW.alike hK, hD⟩, hS.F ht⟩) hS.2.2 d_Model_placeOf_74
      · replace hR := if_n c17 hR
        refine lv_aload_n hx hb d_Model_placeOf_57 rfl (lv_at hl 0 rfl) ?_
        refine rd_Model_304 hx hb hT hown hK hP d_Model_placeOf_58 ?_
        refine lv_iload hx hb d_Model_placeOf_61 (lv_at hl 2 rfl) ?_
        replace hR := gd_e hR
        obtain ⟨b19, hR⟩ := hR
        refine laM_96 hx hb hK hP b19 d_Model_placeOf_63 ?_
        refine lv_topi (fun z20 e20 => ?_)
        replace hR := vK_e e20 hR
        refine lv_istore (lv' := [(4, .int z20), (0, .ref (ad 0)), (3, .int x3), (5, .int x5)]) hx hb d_Model_placeOf_64 hl (by decide) rfl (fun ls hl => ?_)
        obtain ⟨z21, e21⟩ : ∃ y : Int32, y = x5 + (1 : Int32) := ⟨_, rfl⟩
        replace hR := vK_e e21 hR
        refine lv_iinc (v := z21) (lv' := [(5, .int z21), (4, .int z20), (0, .ref (ad 0)), (3, .int x3)]) hx hb d_Model_placeOf_66 hl (k := 3) rfl (by rw [e21]; rfl) (by decide) rfl (fun ls hl => ?_)
        refine lv_goto (tgt := 51) hx hb d_Model_placeOf_69 (by decide) ?_
        have g := ih T x3 z20 z21 hR
        rw [hG] at g
        exact g _ _ hP hD hS _ (lv_sub hl [2, 3, 1, 0] rfl)
  unfold rb_Model_placeOf at hR
  refine lv_iload_n hx hb d_Model_placeOf_0 rfl (lv_at hl 1 rfl) ?_
  refine lv_if_lt (tgt := 28) hx hb d_Model_placeOf_1 (by decide) (fun c1 => ?_) (fun c1 => ?_)
  · replace hR := if_p c1 hR
    refine lv_aload_n hx hb d_Model_placeOf_28 rfl (lv_at hl 0 rfl) ?_
    refine lv_dup hx hb d_Model_placeOf_29 rfl ?_
    refine rd_Model_820 hx hb hT hown hK hP d_Model_placeOf_30 ?_
    refine lv_iconst (v := 1) hx hb d_Model_placeOf_33 (by decide) ?_
    refine lv_iadd hx hb d_Model_placeOf_34 ?_
    refine wr_Model_820 hx hb hT hown hK hP hD hS d_Model_placeOf_35 (fun T2 eT H locs hP hD hS => ?_)
    replace hR := stK_e eT hR
    clear eT
    refine lv_iconst (v := (-1)) hx hb d_Model_placeOf_38 (by decide) ?_
    obtain ⟨e1, -, e3⟩ := re_e hR
    subst e1; subst e3
    exact W.iret (v := (-1 : Int32)) hx hb hr (fun t ht hW => ⟨⟨(-1 : Int32), (), rfl, rfl, by rw [ht]; exact hP, va_K.moved hW.alike hK, hD⟩, hS.F ht⟩) hS.2.2 d_Model_placeOf_39
  · replace hR := if_n c1 hR
    refine lv_aload_n hx hb d_Model_placeOf_4 rfl (lv_at hl 0 rfl) ?_
    refine rd_Model_273 hx hb hT hown hK hP d_Model_placeOf_5 ?_
    refine lv_iload_n hx hb d_Model_placeOf_8 rfl (lv_at hl 1 rfl) ?_
    replace hR := gd_e hR
    obtain ⟨b4, hR⟩ := hR
    refine laM_86 hx hb hK hP b4 d_Model_placeOf_9 ?_
    refine lv_iload_n hx hb d_Model_placeOf_10 rfl (lv_at hl 2 rfl) ?_
    refine lv_icmp_ne (tgt := 28) hx hb d_Model_placeOf_11 (by decide) (fun c5 => ?_) (fun c5 => ?_)
    · replace hR := if_n c5 hR
      refine lv_aload_n hx hb d_Model_placeOf_28 rfl (lv_at hl 0 rfl) ?_
      refine lv_dup hx hb d_Model_placeOf_29 rfl ?_
      refine rd_Model_820 hx hb hT hown hK hP d_Model_placeOf_30 ?_
      refine lv_iconst (v := 1) hx hb d_Model_placeOf_33 (by decide) ?_
      refine lv_iadd hx hb d_Model_placeOf_34 ?_
      refine wr_Model_820 hx hb hT hown hK hP hD hS d_Model_placeOf_35 (fun T6 eT H locs hP hD hS => ?_)
      replace hR := stK_e eT hR
      clear eT
      refine lv_iconst (v := (-1)) hx hb d_Model_placeOf_38 (by decide) ?_
      obtain ⟨e1, -, e3⟩ := re_e hR
      subst e1; subst e3
      exact W.iret (v := (-1 : Int32)) hx hb hr (fun t ht hW => ⟨⟨(-1 : Int32), (), rfl, rfl, by rw [ht]; exact hP, va_K.moved hW.alike hK, hD⟩, hS.F ht⟩) hS.2.2 d_Model_placeOf_39
    · replace hR := if_p c5 hR
      refine lv_iload_n hx hb d_Model_placeOf_14 rfl (lv_at hl 3 rfl) ?_
      refine lv_if_lt (tgt := 28) hx hb d_Model_placeOf_15 (by decide) (fun c8 => ?_) (fun c8 => ?_)
      · replace hR := if_p c8 hR
        refine lv_aload_n hx hb d_Model_placeOf_28 rfl (lv_at hl 0 rfl) ?_
        refine lv_dup hx hb d_Model_placeOf_29 rfl ?_
        refine rd_Model_820 hx hb hT hown hK hP d_Model_placeOf_30 ?_
        refine lv_iconst (v := 1) hx hb d_Model_placeOf_33 (by decide) ?_
        refine lv_iadd hx hb d_Model_placeOf_34 ?_
        refine wr_Model_820 hx hb hT hown hK hP hD hS d_Model_placeOf_35 (fun T9 eT H locs hP hD hS => ?_)
        replace hR := stK_e eT hR
        clear eT
        refine lv_iconst (v := (-1)) hx hb d_Model_placeOf_38 (by decide) ?_
        obtain ⟨e1, -, e3⟩ := re_e hR
        subst e1; subst e3
        exact W.iret (v := (-1 : Int32)) hx hb hr (fun t ht hW => ⟨⟨(-1 : Int32), (), rfl, rfl, by rw [ht]; exact hP, va_K.moved hW.alike hK, hD⟩, hS.F ht⟩) hS.2.2 d_Model_placeOf_39
      · replace hR := if_n c8 hR
        refine lv_iload_n hx hb d_Model_placeOf_18 rfl (lv_at hl 3 rfl) ?_
        refine lv_aload_n hx hb d_Model_placeOf_19 rfl (lv_at hl 0 rfl) ?_
        refine rd_Model_279 hx hb hT hown hK hP d_Model_placeOf_20 ?_
        refine lv_iload_n hx hb d_Model_placeOf_23 rfl (lv_at hl 1 rfl) ?_
        replace hR := gd_e hR
        obtain ⟨b11, hR⟩ := hR
        refine laM_88 hx hb hK hP b11 d_Model_placeOf_24 ?_
        refine lv_icmp_lt (tgt := 40) hx hb d_Model_placeOf_25 (by decide) (fun c12 => ?_) (fun c12 => ?_)
        · replace hR := if_p c12 hR
          refine lv_aload_n hx hb d_Model_placeOf_40 rfl (lv_at hl 0 rfl) ?_
          refine rd_Model_276 hx hb hT hown hK hP d_Model_placeOf_41 ?_
          refine lv_iload_n hx hb d_Model_placeOf_44 rfl (lv_at hl 1 rfl) ?_
          replace hR := gd_e hR
          obtain ⟨b13, hR⟩ := hR
          refine laM_87 hx hb hK hP b13 d_Model_placeOf_45 ?_
          refine lv_topi (fun z14 e14 => ?_)
          replace hR := vK_e e14 hR
          refine lv_istore (lv' := [(4, .int z14), (0, .ref (ad 0)), (1, .int p1), (2, .int p2), (3, .int p3)]) hx hb d_Model_placeOf_46 hl (by decide) rfl (fun ls hl => ?_)
          refine lv_iconst (v := 0) hx hb d_Model_placeOf_48 (by decide) ?_
          refine lv_istore (lv' := [(5, .int (0 : Int32)), (4, .int z14), (0, .ref (ad 0)), (1, .int p1), (2, .int p2), (3, .int p3)]) hx hb d_Model_placeOf_49 hl (by decide) rfl (fun ls hl => ?_)
          have g := lb_51 nf T0 p3 z14 (0 : Int32) hR
          rw [hG] at g
          exact g _ _ hP hD hS _ (lv_sub hl [2, 5, 1, 0] rfl)
        · replace hR := if_n c12 hR
          refine lv_aload_n hx hb d_Model_placeOf_28 rfl (lv_at hl 0 rfl) ?_
          refine lv_dup hx hb d_Model_placeOf_29 rfl ?_
          refine rd_Model_820 hx hb hT hown hK hP d_Model_placeOf_30 ?_
          refine lv_iconst (v := 1) hx hb d_Model_placeOf_33 (by decide) ?_
          refine lv_iadd hx hb d_Model_placeOf_34 ?_
          refine wr_Model_820 hx hb hT hown hK hP hD hS d_Model_placeOf_35 (fun T15 eT H locs hP hD hS => ?_)
          replace hR := stK_e eT hR
          clear eT
          refine lv_iconst (v := (-1)) hx hb d_Model_placeOf_38 (by decide) ?_
          obtain ⟨e1, -, e3⟩ := re_e hR
          subst e1; subst e3
          exact W.iret (v := (-1 : Int32)) hx hb hr (fun t ht hW => ⟨⟨(-1 : Int32), (), rfl, rfl, by rw [ht]; exact hP, va_K.moved hW.alike hK, hD⟩, hS.F ht⟩) hS.2.2 d_Model_placeOf_39
set_option maxHeartbeats 4000000 in
set_option maxRecDepth 100000 in
theorem sp_Model_pushPlace (l : Launch) (dC : Nat → ClassId) (dI : Nat → Nat → Nat) (ea ev ad : Nat → Nat) (km : Nat → ClassId) (F : gF) (nf d : Nat) (h_Model_placeOf : mt_Model_placeOf l dC dI ea ev ad km F d) (h_Model_push : mt_Model_push l dC dI ea ev ad km F d) (T0 : gSt) (p1 : Int32) (p2 : Int32) (p3 : Int32) (r0 : Int32) (rl0 : Int64) (T9 : gSt) (hR : rb_Model_pushPlace F nf T0 p1 p2 p3 = some (r0, rl0, T9)) : GMv l dC dI LM ad km ea ev y_Model_pushPlace w_Model_pushPlace (rmD (d + 1)) [.ref (ad 0), .int p1, .int p2, .int p3] T0 T9 := by
  intro sz
  refine Met.ofW (cc := b_Model_pushPlace) (maxL := 5) (ret := none) (by decide) rfl ?_
  intro p e s m args below meth c s₁ B hml hv
  obtain ⟨rfl, hsz, hP, hK, hD0, hnw, henv⟩ := hv
  have hx := B.exec
  have hb := B.bytes
  have hr := B.returns
  have hT : ∀ w ∈ lw_good, w.before _ s = true := fun w h => atoms_spec (ws := w_Model_pushPlace) B.pre w (List.mem_cons_of_mem _ h)
  have hown : s.vm.findClass R_Model = some m.cls := findClass_of_methodNamed B.named
  subst hsz
  have hD := hD0.self (sz := s.heap.size)
  clear hD0
  generalize hAe : va_A (gW LM ad km T0) s.heap.size = A at hD henv ⊢
  have hA : ∀ q : Nat, s.heap.size ≤ q → A q := fun q h => by rw [← hAe]; exact Or.inr h
  have hS : va_S A s.heap s.heap [] := va_S.rf
  have hl := lv_entry ([.ref (ad 0), .int p1, .int p2, .int p3]) (n := 5) (Nat.le_of_ble_eq_true rfl)
  rw [lg_entry_eq]
  generalize (lg_sl ([.ref (ad 0), .int p1, .int p2, .int p3]) ++ List.replicate (5 - (lg_sl ([.ref (ad 0), .int p1, .int p2, .int p3])).length) Slot.unset).toArray = ls at hl ⊢
  have hl : lv_has ls 5 [(0, .ref (ad 0)), (1, .int p1), (2, .int p2), (3, .int p3)] := hl
  obtain ⟨G, hG⟩ : ∃ G : Nat → List (Nat × Value) → List Value → gSt → Prop, G = (fun pc lv stk T => ∀ (H : Heap) (locs : List Loc), va_P (dC, dI) cls_all (gW LM ad km T) H → va_D A (gW LM ad km T) → va_S A s.heap H locs → ∀ (ls : Array Slot), lv_has ls 5 lv → W p l e (headSpec w_Model_pushPlace (rmD (d + 1))).room s m ([.ref (ad 0), .int p1, .int p2, .int p3] : List Value).toArray below meth c H locs 0 0 (MQ below (va_Qv (fun (_ : Unit) => True) (fun _ t => gPost dC dI LM ad km T9 A t) A) ([.ref (ad 0), .int p1, .int p2, .int p3] : List Value).toArray s 0 0 A) (F0 m pc ls stk)) := ⟨_, rfl⟩
  have lb_83 : ∀ (T : gSt) (x4 : Int32) (y0 : Int32) (y1 : Int32) (y2 : Int32), rj_Model_pushPlace_83 F nf T x4 y0 y1 y2 = some (r0, rl0, T9) → G 83 [(0, .ref (ad 0)), (4, .int x4)] [.int y0, .int y1, .int y2, .ref (ad 0)] T := by
    intro T x4 y0 y1 y2 hR; unfold rj_Model_pushPlace_83 at hR; rw [hG]; intro H locs hP hD hS ls hl
    replace hR := bi_e hR
    obtain ⟨r14, l14, T14, hc14, hR⟩ := hR
    refine gcV_v (rest := []) ⟨hx, hb, hml, hown, hT⟩ (h_Model_push _ _ _ _ _ _ _ hc14) (cwV 3 hT (gV ml_Model_857 im_Model_push se_Model_push ini_Model co_Model_push) rfl rfl rfl pd_Model_push ⟨rm_hi, rm_lo (Nat.le_of_ble_eq_true rfl)⟩) hK hP hD hS hA hnw henv (Nat.le_of_ble_eq_true rfl) rfl rfl hl.1 rfl (Nat.le_of_ble_eq_true rfl) d_Model_pushPlace_83 ⟨Nat.le_refl _, Nat.le_refl _⟩ (fun H locs hP hD hS => ?_)
    clear hc14
    refine lv_aload_n hx hb d_Model_pushPlace_86 rfl (lv_at hl 0 rfl) ?_
    refine rd_Model_216 hx hb hT hown hK hP d_Model_pushPlace_87 ?_
    refine lv_aload_n hx hb d_Model_pushPlace_90 rfl (lv_at hl 0 rfl) ?_
    refine rd_Model_799 hx hb hT hown hK hP d_Model_pushPlace_91 ?_
    refine lv_iconst (v := 1) hx hb d_Model_pushPlace_94 (by decide) ?_
    refine lv_isub hx hb d_Model_pushPlace_95 ?_
    refine lv_iload hx hb d_Model_pushPlace_96 (lv_at hl 1 rfl) ?_
    refine lv_if_ge (tgt := 105) hx hb d_Model_pushPlace_98 (by decide) (fun c15 => ?_) (fun c15 => ?_)
    · replace hR := if_p c15 hR
      refine lv_aload_n hx hb d_Model_pushPlace_105 rfl (lv_at hl 0 rfl) ?_
      refine rd_Model_297 hx hb hT hown hK hP d_Model_pushPlace_106 ?_
      refine lv_iload hx hb d_Model_pushPlace_109 (lv_at hl 1 rfl) ?_
      replace hR := gd_e hR
      obtain ⟨b16, hR⟩ := hR
      refine laM_94 hx hb hK hP b16 d_Model_pushPlace_111 ?_
      replace hR := gd_e hR
      obtain ⟨b17, hR⟩ := hR
      refine saM_67 hx hb hK hP hD hS b17 d_Model_pushPlace_112 (fun T17 eT H locs hP hD hS => ?_)
      replace hR := stK_e eT hR
      clear eT
      obtain ⟨-, -, e3⟩ := re_e hR
      subst e3
      exact W.vret hx hb hr (fun t ht hW => ⟨⟨(), rfl, trivial, by rw [ht]; exact hP, va_K.moved hW.alike hK, hD⟩, hS.F ht⟩) hS.2.2 d_Model_pushPlace_113
    · replace hR := if_n c15 hR
      refine lv_iconst (v := 0) hx hb d_Model_pushPlace_101 (by decide) ?_
      refine lv_goto (tgt := 112) hx hb d_Model_pushPlace_102 (by decide) ?_
      replace hR := gd_e hR
      obtain ⟨b18, hR⟩ := hR
      refine saM_67 hx hb hK hP hD hS b18 d_Model_pushPlace_112 (fun T18 eT H locs hP hD hS => ?_)
      replace hR := stK_e eT hR
      clear eT
      obtain ⟨-, -, e3⟩ := re_e hR
      subst e3
      exact W.vret hx hb hr (fun t ht hW => ⟨⟨(), rfl, trivial, by rw [ht]; exact hP, va_K.moved hW.alike hK, hD⟩, hS.F ht⟩) hS.2.2 d_Model_pushPlace_113
  have lb_51 : ∀ (T : gSt) (x4 : Int32) (y0 : Int32), rj_Model_pushPlace_51 F nf T x4 y0 = some (r0, rl0, T9) → G 51 [(0, .ref (ad 0)), (4, .int x4)] [.int y0, .ref (ad 0)] T := by
    intro T x4 y0 hR; unfold rj_Model_pushPlace_51 at hR; rw [hG]; intro H locs hP hD hS ls hl
    refine lv_iload hx hb d_Model_pushPlace_51 (lv_at hl 1 rfl) ?_
    refine lv_if_ge (tgt := 60) hx hb d_Model_pushPlace_53 (by decide) (fun c8 => ?_) (fun c8 => ?_)
    · replace hR := if_p c8 hR
      refine lv_aload_n hx hb d_Model_pushPlace_60 rfl (lv_at hl 0 rfl) ?_
      refine rd_Model_291 hx hb hT hown hK hP d_Model_pushPlace_61 ?_
      refine lv_iload hx hb d_Model_pushPlace_64 (lv_at hl 1 rfl) ?_
      replace hR := gd_e hR
      obtain ⟨b9, hR⟩ := hR
      refine laM_92 hx hb hK hP b9 d_Model_pushPlace_66 ?_
      refine lv_iload hx hb d_Model_pushPlace_67 (lv_at hl 1 rfl) ?_
      refine lv_if_ge (tgt := 76) hx hb d_Model_pushPlace_69 (by decide) (fun c10 => ?_) (fun c10 => ?_)
      · replace hR := if_p c10 hR
        refine lv_aload_n hx hb d_Model_pushPlace_76 rfl (lv_at hl 0 rfl) ?_
        refine rd_Model_294 hx hb hT hown hK hP d_Model_pushPlace_77 ?_
        refine lv_iload hx hb d_Model_pushPlace_80 (lv_at hl 1 rfl) ?_
        replace hR := gd_e hR
        obtain ⟨b11, hR⟩ := hR
        refine laM_93 hx hb hK hP b11 d_Model_pushPlace_82 ?_
        have g := lb_83 T x4 (T.1 146 x4.toNatClampNeg) (T.1 145 x4.toNatClampNeg) y0 hR
        rw [hG] at g
        exact g _ _ hP hD hS _ (lv_sub hl [0, 1] rfl)
      · replace hR := if_n c10 hR
        refine lv_iconst (v := 0) hx hb d_Model_pushPlace_72 (by decide) ?_
        refine lv_goto (tgt := 83) hx hb d_Model_pushPlace_73 (by decide) ?_
        have g := lb_83 T x4 (0 : Int32) (T.1 145 x4.toNatClampNeg) y0 hR
        rw [hG] at g
        exact g _ _ hP hD hS _ (lv_sub hl [0, 1] rfl)
    · replace hR := if_n c8 hR
      refine lv_iconst (v := (-1)) hx hb d_Model_pushPlace_56 (by decide) ?_
      refine lv_goto (tgt := 67) hx hb d_Model_pushPlace_57 (by decide) ?_
      refine lv_iload hx hb d_Model_pushPlace_67 (lv_at hl 1 rfl) ?_
      refine lv_if_ge (tgt := 76) hx hb d_Model_pushPlace_69 (by decide) (fun c12 => ?_) (fun c12 => ?_)
      · replace hR := if_p c12 hR
        refine lv_aload_n hx hb d_Model_pushPlace_76 rfl (lv_at hl 0 rfl) ?_
        refine rd_Model_294 hx hb hT hown hK hP d_Model_pushPlace_77 ?_
        refine lv_iload hx hb d_Model_pushPlace_80 (lv_at hl 1 rfl) ?_
        replace hR := gd_e hR
        obtain ⟨b13, hR⟩ := hR
        refine laM_93 hx hb hK hP b13 d_Model_pushPlace_82 ?_
        have g := lb_83 T x4 (T.1 146 x4.toNatClampNeg) (-1 : Int32) y0 hR
        rw [hG] at g
        exact g _ _ hP hD hS _ (lv_sub hl [0, 1] rfl)
      · replace hR := if_n c12 hR
        refine lv_iconst (v := 0) hx hb d_Model_pushPlace_72 (by decide) ?_
        refine lv_goto (tgt := 83) hx hb d_Model_pushPlace_73 (by decide) ?_
        have g := lb_83 T x4 (0 : Int32) (-1 : Int32) y0 hR
        rw [hG] at g
        exact g _ _ hP hD hS _ (lv_sub hl [0, 1] rfl)
  have lb_34 : ∀ (T : gSt) (x4 : Int32), rj_Model_pushPlace_34 F nf T x4 = some (r0, rl0, T9) → G 34 [(0, .ref (ad 0)), (4, .int x4)] [] T := by
    intro T x4 hR; unfold rj_Model_pushPlace_34 at hR; rw [hG]; intro H locs hP hD hS ls hl
    refine lv_aload_n hx hb d_Model_pushPlace_34 rfl (lv_at hl 0 rfl) ?_
    refine lv_iload hx hb d_Model_pushPlace_35 (lv_at hl 1 rfl) ?_
    refine lv_if_ge (tgt := 44) hx hb d_Model_pushPlace_37 (by decide) (fun c6 => ?_) (fun c6 => ?_)
    · replace hR := if_p c6 hR
      refine lv_aload_n hx hb d_Model_pushPlace_44 rfl (lv_at hl 0 rfl) ?_
      refine rd_Model_288 hx hb hT hown hK hP d_Model_pushPlace_45 ?_
      refine lv_iload hx hb d_Model_pushPlace_48 (lv_at hl 1 rfl) ?_
      replace hR := gd_e hR
      obtain ⟨b7, hR⟩ := hR
      refine laM_91 hx hb hK hP b7 d_Model_pushPlace_50 ?_
      have g := lb_51 T x4 (T.1 144 x4.toNatClampNeg) hR
      rw [hG] at g
      exact g _ _ hP hD hS _ (lv_sub hl [0, 1] rfl)
    · replace hR := if_n c6 hR
      refine lv_iconst (v := 0) hx hb d_Model_pushPlace_40 (by decide) ?_
      refine lv_goto (tgt := 51) hx hb d_Model_pushPlace_41 (by decide) ?_
      have g := lb_51 T x4 (0 : Int32) hR
      rw [hG] at g
      exact g _ _ hP hD hS _ (lv_sub hl [0, 1] rfl)
  unfold rb_Model_pushPlace at hR
  refine lv_aload_n hx hb d_Model_pushPlace_0 rfl (lv_at hl 0 rfl) ?_
  refine lv_iload_n hx hb d_Model_pushPlace_1 rfl (lv_at hl 1 rfl) ?_
  refine lv_iload_n hx hb d_Model_pushPlace_2 rfl (lv_at hl 2 rfl) ?_
  refine lv_iload_n hx hb d_Model_pushPlace_3 rfl (lv_at hl 3 rfl) ?_
  replace hR := bi_e hR
  obtain ⟨r1, l1, T1, hc1, hR⟩ := hR
  refine gcV_i (rest := []) ⟨hx, hb, hml, hown, hT⟩ (h_Model_placeOf _ _ _ _ _ _ _ hc1) (cwV 3 hT (gV ml_Model_853 im_Model_placeOf se_Model_placeOf ini_Model co_Model_placeOf) rfl rfl rfl pd_Model_placeOf ⟨rm_hi, rm_lo (Nat.le_of_ble_eq_true rfl)⟩) hK hP hD hS hA hnw henv (Nat.le_of_ble_eq_true rfl) rfl rfl hl.1 rfl (Nat.le_of_ble_eq_true rfl) d_Model_pushPlace_4 ⟨Nat.le_refl _, Nat.le_refl _⟩ (fun H locs hP hD hS => ?_)
  clear hc1
  refine lv_istore (lv' := [(4, .int r1), (0, .ref (ad 0)), (1, .int p1), (2, .int p2), (3, .int p3)]) hx hb d_Model_pushPlace_7 hl (by decide) rfl (fun ls hl => ?_)
  refine lv_iload hx hb d_Model_pushPlace_9 (lv_at hl 0 rfl) ?_
  refine lv_if_lt (tgt := 34) hx hb d_Model_pushPlace_11 (by decide) (fun c2 => ?_) (fun c2 => ?_)
  · replace hR := if_p c2 hR
    have g := lb_34 T1 r1 hR
    rw [hG] at g
    exact g _ _ hP hD hS _ (lv_sub hl [1, 0] rfl)
  · replace hR := if_n c2 hR
    refine lv_aload_n hx hb d_Model_pushPlace_14 rfl (lv_at hl 1 rfl) ?_
    refine rd_Model_300 hx hb hT hown hK hP d_Model_pushPlace_15 ?_
    refine lv_iload hx hb d_Model_pushPlace_18 (lv_at hl 0 rfl) ?_
    replace hR := gd_e hR
    obtain ⟨b3, hR⟩ := hR
    refine laM_95 hx hb hK hP b3 d_Model_pushPlace_20 ?_
    refine lv_if_ne (tgt := 34) hx hb d_Model_pushPlace_21 (by decide) (fun c4 => ?_) (fun c4 => ?_)
    · replace hR := if_n c4 hR
      have g := lb_34 T1 r1 hR
      rw [hG] at g
      exact g _ _ hP hD hS _ (lv_sub hl [1, 0] rfl)
    · replace hR := if_p c4 hR
      refine lv_aload_n hx hb d_Model_pushPlace_24 rfl (lv_at hl 1 rfl) ?_
      refine lv_dup hx hb d_Model_pushPlace_25 rfl ?_
      refine rd_Model_820 hx hb hT hown hK hP d_Model_pushPlace_26 ?_
      refine lv_iconst (v := 1) hx hb d_Model_pushPlace_29 (by decide) ?_
      refine lv_iadd hx hb d_Model_pushPlace_30 ?_
      refine wr_Model_820 hx hb hT hown hK hP hD hS d_Model_pushPlace_31 (fun T5 eT H locs hP hD hS => ?_)
      replace hR := stK_e eT hR
      clear eT
      have g := lb_34 T5 r1 hR
      rw [hG] at g
      exact g _ _ hP hD hS _ (lv_sub hl [1, 0] rfl)
set_option maxHeartbeats 4000000 in
set_option maxRecDepth 100000 in
theorem sp_Model_put (l : Launch) (dC : Nat → ClassId) (dI : Nat → Nat → Nat) (ea ev ad : Nat → Nat) (km : Nat → ClassId) (F : gF) (nf d : Nat) (h_Model_placeOf : mt_Model_placeOf l dC dI ea ev ad km F d) (T0 : gSt) (p1 : Int32) (p2 : Int32) (p3 : Int32) (p4 : Int32) (r0 : Int32) (rl0 : Int64) (T9 : gSt) (hR : rb_Model_put F nf T0 p1 p2 p3 p4 = some (r0, rl0, T9)) : GMv l dC dI LM ad km ea ev y_Model_put w_Model_put (rmD (d + 1)) [.ref (ad 0), .int p1, .int p2, .int p3, .int p4] T0 T9 := by
  intro sz
  refine Met.ofW (cc := b_Model_put) (maxL := 6) (ret := none) (by decide) rfl ?_
  intro p e s m args below meth c s₁ B hml hv
  obtain ⟨rfl, hsz, hP, hK, hD0, hnw, henv⟩ := hv
  have hx := B.exec
  have hb := B.bytes
  have hr := B.returns
  have hT : ∀ w ∈ lw_good, w.before _ s = true := fun w h => atoms_spec (ws := w_Model_put) B.pre w (List.mem_cons_of_mem _ h)
  have hown : s.vm.findClass R_Model = some m.cls := findClass_of_methodNamed B.named
  subst hsz
  have hD := hD0.self (sz := s.heap.size)
  clear hD0
  generalize hAe : va_A (gW LM ad km T0) s.heap.size = A at hD henv ⊢
  have hA : ∀ q : Nat, s.heap.size ≤ q → A q := fun q h => by rw [← hAe]; exact Or.inr h
  have hS : va_S A s.heap s.heap [] := va_S.rf
  have hl := lv_entry ([.ref (ad 0), .int p1, .int p2, .int p3, .int p4]) (n := 6) (Nat.le_of_ble_eq_true rfl)
  rw [lg_entry_eq]
  generalize (lg_sl ([.ref (ad 0), .int p1, .int p2, .int p3, .int p4]) ++ List.replicate (6 - (lg_sl ([.ref (ad 0), .int p1, .int p2, .int p3, .int p4])).length) Slot.unset).toArray = ls at hl ⊢
  have hl : lv_has ls 6 [(0, .ref (ad 0)), (1, .int p1), (2, .int p2), (3, .int p3), (4, .int p4)] := hl
  unfold rb_Model_put at hR
  refine lv_aload_n hx hb d_Model_put_0 rfl (lv_at hl 0 rfl) ?_
  refine lv_iload_n hx hb d_Model_put_1 rfl (lv_at hl 1 rfl) ?_
  refine lv_iload_n hx hb d_Model_put_2 rfl (lv_at hl 2 rfl) ?_
  refine lv_iload_n hx hb d_Model_put_3 rfl (lv_at hl 3 rfl) ?_
  replace hR := bi_e hR
  obtain ⟨r1, l1, T1, hc1, hR⟩ := hR
  refine gcV_i (rest := []) ⟨hx, hb, hml, hown, hT⟩ (h_Model_placeOf _ _ _ _ _ _ _ hc1) (cwV 3 hT (gV ml_Model_853 im_Model_placeOf se_Model_placeOf ini_Model co_Model_placeOf) rfl rfl rfl pd_Model_placeOf ⟨rm_hi, rm_lo (Nat.le_of_ble_eq_true rfl)⟩) hK hP hD hS hA hnw henv (Nat.le_of_ble_eq_true rfl) rfl rfl hl.1 rfl (Nat.le_of_ble_eq_true rfl) d_Model_put_4 ⟨Nat.le_refl _, Nat.le_refl _⟩ (fun H locs hP hD hS => ?_)
  clear hc1
  refine lv_istore (lv' := [(5, .int r1), (0, .ref (ad 0)), (1, .int p1), (2, .int p2), (3, .int p3), (4, .int p4)]) hx hb d_Model_put_7 hl (by decide) rfl (fun ls hl => ?_)
  refine lv_iload hx hb d_Model_put_9 (lv_at hl 0 rfl) ?_
  refine lv_if_ge (tgt := 15) hx hb d_Model_put_11 (by decide) (fun c2 => ?_) (fun c2 => ?_)
  · replace hR := if_p c2 hR
    refine lv_aload_n hx hb d_Model_put_15 rfl (lv_at hl 1 rfl) ?_
    refine rd_Model_288 hx hb hT hown hK hP d_Model_put_16 ?_
    refine lv_iload hx hb d_Model_put_19 (lv_at hl 0 rfl) ?_
    refine lv_aload_n hx hb d_Model_put_21 rfl (lv_at hl 1 rfl) ?_
    refine rd_Model_207 hx hb hT hown hK hP d_Model_put_22 ?_
    refine lv_iload hx hb d_Model_put_25 (lv_at hl 5 rfl) ?_
    replace hR := gd_e hR
    obtain ⟨b3, hR⟩ := hR
    refine laM_64 hx hb hK hP b3 d_Model_put_27 ?_
    replace hR := gd_e hR
    obtain ⟨b4, hR⟩ := hR
    refine saM_91 hx hb hK hP hD hS b4 d_Model_put_28 (fun T4 eT H locs hP hD hS => ?_)
    replace hR := stK_e eT hR
    clear eT
    refine lv_aload_n hx hb d_Model_put_29 rfl (lv_at hl 1 rfl) ?_
    refine rd_Model_291 hx hb hT hown hK hP d_Model_put_30 ?_
    refine lv_iload hx hb d_Model_put_33 (lv_at hl 0 rfl) ?_
    refine lv_aload_n hx hb d_Model_put_35 rfl (lv_at hl 1 rfl) ?_
    refine rd_Model_210 hx hb hT hown hK hP d_Model_put_36 ?_
    refine lv_iload hx hb d_Model_put_39 (lv_at hl 5 rfl) ?_
    replace hR := gd_e hR
    obtain ⟨b5, hR⟩ := hR
    refine laM_65 hx hb hK hP b5 d_Model_put_41 ?_
    replace hR := gd_e hR
    obtain ⟨b6, hR⟩ := hR
    refine saM_92 hx hb hK hP hD hS b6 d_Model_put_42 (fun T6 eT H locs hP hD hS => ?_)
    replace hR := stK_e eT hR
    clear eT
    refine lv_aload_n hx hb d_Model_put_43 rfl (lv_at hl 1 rfl) ?_
    refine rd_Model_294 hx hb hT hown hK hP d_Model_put_44 ?_
    refine lv_iload hx hb d_Model_put_47 (lv_at hl 0 rfl) ?_
    refine lv_aload_n hx hb d_Model_put_49 rfl (lv_at hl 1 rfl) ?_
    refine rd_Model_213 hx hb hT hown hK hP d_Model_put_50 ?_
    refine lv_iload hx hb d_Model_put_53 (lv_at hl 5 rfl) ?_
    replace hR := gd_e hR
    obtain ⟨b7, hR⟩ := hR
    refine laM_66 hx hb hK hP b7 d_Model_put_55 ?_
    replace hR := gd_e hR
    obtain ⟨b8, hR⟩ := hR
    refine saM_93 hx hb hK hP hD hS b8 d_Model_put_56 (fun T8 eT H locs hP hD hS => ?_)
    replace hR := stK_e eT hR
    clear eT
    refine lv_aload_n hx hb d_Model_put_57 rfl (lv_at hl 1 rfl) ?_
    refine rd_Model_297 hx hb hT hown hK hP d_Model_put_58 ?_
    refine lv_iload hx hb d_Model_put_61 (lv_at hl 0 rfl) ?_
    refine lv_aload_n hx hb d_Model_put_63 rfl (lv_at hl 1 rfl) ?_
    refine rd_Model_216 hx hb hT hown hK hP d_Model_put_64 ?_
    refine lv_iload hx hb d_Model_put_67 (lv_at hl 5 rfl) ?_
    replace hR := gd_e hR
    obtain ⟨b9, hR⟩ := hR
    refine laM_67 hx hb hK hP b9 d_Model_put_69 ?_
    replace hR := gd_e hR
    obtain ⟨b10, hR⟩ := hR
    refine saM_94 hx hb hK hP hD hS b10 d_Model_put_70 (fun T10 eT H locs hP hD hS => ?_)
    replace hR := stK_e eT hR
    clear eT
    refine lv_aload_n hx hb d_Model_put_71 rfl (lv_at hl 1 rfl) ?_
    refine rd_Model_300 hx hb hT hown hK hP d_Model_put_72 ?_
    refine lv_iload hx hb d_Model_put_75 (lv_at hl 0 rfl) ?_
    refine lv_iconst (v := 1) hx hb d_Model_put_77 (by decide) ?_
    replace hR := gd_e hR
    obtain ⟨b11, hR⟩ := hR
    refine saM_95 hx hb hK hP hD hS (by decide) b11 d_Model_put_78 (fun T11 eT H locs hP hD hS => ?_)
    replace hR := stK_e eT hR
    clear eT
    obtain ⟨-, -, e3⟩ := re_e hR
    subst e3
    exact W.vret hx hb hr (fun t ht hW => ⟨⟨(), rfl, trivial, by rw [ht]; exact hP, va_K.moved hW.alike hK, hD⟩, hS.F ht⟩) hS.2.2 d_Model_put_79
  · replace hR := if_n c2 hR
    obtain ⟨-, -, e3⟩ := re_e hR
    subst e3
    exact W.vret hx hb hr (fun t ht hW => ⟨⟨(), rfl, trivial, by rw [ht]; exact hP, va_K.moved hW.alike hK, hD⟩, hS.F ht⟩) hS.2.2 d_Model_put_14
set_option maxHeartbeats 4000000 in
set_option maxRecDepth 100000 in
theorem sp_Model_raise (l : Launch) (dC : Nat → ClassId) (dI : Nat → Nat → Nat) (ea ev ad : Nat → Nat) (km : Nat → ClassId) (F : gF) (nf d : Nat) (h_Model_shrink : mt_Model_shrink l dC dI ea ev ad km F d) (T0 : gSt) (p1 : Int32) (r0 : Int32) (rl0 : Int64) (T9 : gSt) (hR : rb_Model_raise F nf T0 p1 = some (r0, rl0, T9)) : GMv l dC dI LM ad km ea ev y_Model_raise w_Model_raise (rmD (d + 1)) [.ref (ad 0), .int p1] T0 T9 := by
  intro sz
  refine Met.ofW (cc := b_Model_raise) (maxL := 2) (ret := none) (by decide) rfl ?_
  intro p e s m args below meth c s₁ B hml hv
  obtain ⟨rfl, hsz, hP, hK, hD0, hnw, henv⟩ := hv
  have hx := B.exec
  have hb := B.bytes
  have hr := B.returns
  have hT : ∀ w ∈ lw_good, w.before _ s = true := fun w h => atoms_spec (ws := w_Model_raise) B.pre w (List.mem_cons_of_mem _ h)
  have hown : s.vm.findClass R_Model = some m.cls := findClass_of_methodNamed B.named
  subst hsz
  have hD := hD0.self (sz := s.heap.size)
  clear hD0
  generalize hAe : va_A (gW LM ad km T0) s.heap.size = A at hD henv ⊢
  have hA : ∀ q : Nat, s.heap.size ≤ q → A q := fun q h => by rw [← hAe]; exact Or.inr h
  have hS : va_S A s.heap s.heap [] := va_S.rf
  have hl := lv_entry ([.ref (ad 0), .int p1]) (n := 2) (Nat.le_of_ble_eq_true rfl)
  rw [lg_entry_eq]
  generalize (lg_sl ([.ref (ad 0), .int p1]) ++ List.replicate (2 - (lg_sl ([.ref (ad 0), .int p1])).length) Slot.unset).toArray = ls at hl ⊢
  have hl : lv_has ls 2 [(0, .ref (ad 0)), (1, .int p1)] := hl
  unfold rb_Model_raise at hR
  refine lv_aload_n hx hb d_Model_raise_0 rfl (lv_at hl 0 rfl) ?_
  refine lv_dup hx hb d_Model_raise_1 rfl ?_
  refine rd_Model_817 hx hb hT hown hK hP d_Model_raise_2 ?_
  refine lv_iconst (v := 1) hx hb d_Model_raise_5 (by decide) ?_
  refine lv_iadd hx hb d_Model_raise_6 ?_
  refine wr_Model_817 hx hb hT hown hK hP hD hS d_Model_raise_7 (fun T1 eT H locs hP hD hS => ?_)
  replace hR := stK_e eT hR
  clear eT
  refine lv_aload_n hx hb d_Model_raise_10 rfl (lv_at hl 0 rfl) ?_
  refine rd_Model_832 hx hb hT hown hK hP d_Model_raise_11 ?_
  refine lv_if_ne (tgt := 28) hx hb d_Model_raise_14 (by decide) (fun c2 => ?_) (fun c2 => ?_)
  · replace hR := if_n c2 hR
    refine lv_aload_n hx hb d_Model_raise_28 rfl (lv_at hl 0 rfl) ?_
    refine lv_dup hx hb d_Model_raise_29 rfl ?_
    refine rd_Model_832 hx hb hT hown hK hP d_Model_raise_30 ?_
    refine lv_iconst (v := 1) hx hb d_Model_raise_33 (by decide) ?_
    refine lv_isub hx hb d_Model_raise_34 ?_
    refine wr_Model_832 hx hb hT hown hK hP hD hS d_Model_raise_35 (fun T3 eT H locs hP hD hS => ?_)
    replace hR := stK_e eT hR
    clear eT
    refine lv_aload_n hx hb d_Model_raise_38 rfl (lv_at hl 0 rfl) ?_
    refine lv_aload_n hx hb d_Model_raise_39 rfl (lv_at hl 0 rfl) ?_
    refine rd_Model_249 hx hb hT hown hK hP d_Model_raise_40 ?_
    refine lv_aload_n hx hb d_Model_raise_43 rfl (lv_at hl 0 rfl) ?_
    refine rd_Model_832 hx hb hT hown hK hP d_Model_raise_44 ?_
    replace hR := gd_e hR
    obtain ⟨b4, hR⟩ := hR
    refine laM_78 hx hb hK hP b4 d_Model_raise_47 ?_
    refine wr_Model_808 hx hb hT hown hK hP hD hS d_Model_raise_48 (fun T5 eT H locs hP hD hS => ?_)
    replace hR := stK_e eT hR
    clear eT
    refine lv_aload_n hx hb d_Model_raise_51 rfl (lv_at hl 0 rfl) ?_
    refine lv_aload_n hx hb d_Model_raise_52 rfl (lv_at hl 0 rfl) ?_
    refine rd_Model_252 hx hb hT hown hK hP d_Model_raise_53 ?_
    refine lv_aload_n hx hb d_Model_raise_56 rfl (lv_at hl 0 rfl) ?_
    refine rd_Model_832 hx hb hT hown hK hP d_Model_raise_57 ?_
    replace hR := gd_e hR
    obtain ⟨b6, hR⟩ := hR
    refine laM_79 hx hb hK hP b6 d_Model_raise_60 ?_
    refine wr_Model_799 hx hb hT hown hK hP hD hS d_Model_raise_61 (fun T7 eT H locs hP hD hS => ?_)
    replace hR := stK_e eT hR
    clear eT
    refine lv_aload_n hx hb d_Model_raise_64 rfl (lv_at hl 0 rfl) ?_
    refine lv_aload_n hx hb d_Model_raise_65 rfl (lv_at hl 0 rfl) ?_
    refine rd_Model_255 hx hb hT hown hK hP d_Model_raise_66 ?_
    refine lv_aload_n hx hb d_Model_raise_69 rfl (lv_at hl 0 rfl) ?_
    refine rd_Model_832 hx hb hT hown hK hP d_Model_raise_70 ?_
    replace hR := gd_e hR
    obtain ⟨b8, hR⟩ := hR
    refine laM_80 hx hb hK hP b8 d_Model_raise_73 ?_
    replace hR := bi_e hR
    obtain ⟨r9, l9, T9, hc9, hR⟩ := hR
    refine gcV_v (rest := []) ⟨hx, hb, hml, hown, hT⟩ (h_Model_shrink _ _ _ _ _ hc9) (cwV 1 hT (gV ml_Model_860 im_Model_shrink se_Model_shrink ini_Model co_Model_shrink) rfl rfl rfl pd_Model_shrink ⟨rm_hi, rm_lo (Nat.le_of_ble_eq_true rfl)⟩) hK hP hD hS hA hnw henv (Nat.le_of_ble_eq_true rfl) rfl rfl hl.1 rfl (Nat.le_of_ble_eq_true rfl) d_Model_raise_74 ⟨Nat.le_refl _, Nat.le_refl _⟩ (fun H locs hP hD hS => ?_)
    clear hc9
    refine lv_aload_n hx hb d_Model_raise_77 rfl (lv_at hl 0 rfl) ?_
    refine lv_aload_n hx hb d_Model_raise_78 rfl (lv_at hl 0 rfl) ?_
    refine rd_Model_246 hx hb hT hown hK hP d_Model_raise_79 ?_
    refine lv_aload_n hx hb d_Model_raise_82 rfl (lv_at hl 0 rfl) ?_
    refine rd_Model_832 hx hb hT hown hK hP d_Model_raise_83 ?_
    replace hR := gd_e hR
    obtain ⟨b10, hR⟩ := hR
    refine laM_77 hx hb hK hP b10 d_Model_raise_86 ?_
    refine wr_Model_863 hx hb hT hown hK hP hD hS d_Model_raise_87 (fun T11 eT H locs hP hD hS => ?_)
    replace hR := stK_e eT hR
    clear eT
    refine lv_aload_n hx hb d_Model_raise_90 rfl (lv_at hl 0 rfl) ?_
    refine rd_Model_243 hx hb hT hown hK hP d_Model_raise_91 ?_
    refine lv_bipush (v := 40) hx hb d_Model_raise_94 (by decide) ?_
    refine lv_aload_n hx hb d_Model_raise_96 rfl (lv_at hl 0 rfl) ?_
    refine rd_Model_808 hx hb hT hown hK hP d_Model_raise_97 ?_
    refine lv_iconst (v := 1) hx hb d_Model_raise_100 (by decide) ?_
    refine lv_isub hx hb d_Model_raise_101 ?_
    refine lv_imul hx hb d_Model_raise_102 ?_
    refine lv_aload_n hx hb d_Model_raise_103 rfl (lv_at hl 0 rfl) ?_
    refine rd_Model_258 hx hb hT hown hK hP d_Model_raise_104 ?_
    refine lv_aload_n hx hb d_Model_raise_107 rfl (lv_at hl 0 rfl) ?_
    refine rd_Model_832 hx hb hT hown hK hP d_Model_raise_108 ?_
    replace hR := gd_e hR
    obtain ⟨b12, hR⟩ := hR
    refine laM_81 hx hb hK hP b12 d_Model_raise_111 ?_
    refine lv_iadd hx hb d_Model_raise_112 ?_
    refine lv_iload_n hx hb d_Model_raise_113 rfl (lv_at hl 1 rfl) ?_
    replace hR := gd_e hR
    obtain ⟨b13, hR⟩ := hR
    refine saM_76 hx hb hK hP hD hS b13 d_Model_raise_114 (fun T13 eT H locs hP hD hS => ?_)
    replace hR := stK_e eT hR
    clear eT
    obtain ⟨-, -, e3⟩ := re_e hR
    subst e3
    exact W.vret hx hb hr (fun t ht hW => ⟨⟨(), rfl, trivial, by rw [ht]; exact hP, va_K.moved hW.alike hK, hD⟩, hS.F ht⟩) hS.2.2 d_Model_raise_115
  · replace hR := if_p c2 hR
    refine lv_aload_n hx hb d_Model_raise_17 rfl (lv_at hl 0 rfl) ?_
    refine lv_iconst (v := 3) hx hb d_Model_raise_18 (by decide) ?_
    refine wr_Model_802 hx hb hT hown hK hP hD hS d_Model_raise_19 (fun T14 eT H locs hP hD hS => ?_)
    replace hR := stK_e eT hR
    clear eT
    refine lv_aload_n hx hb d_Model_raise_22 rfl (lv_at hl 0 rfl) ?_
    refine lv_iload_n hx hb d_Model_raise_23 rfl (lv_at hl 1 rfl) ?_
    refine wr_Model_823 hx hb hT hown hK hP hD hS d_Model_raise_24 (fun T15 eT H locs hP hD hS => ?_)
    replace hR := stK_e eT hR
    clear eT
    obtain ⟨-, -, e3⟩ := re_e hR
    subst e3
    exact W.vret hx hb hr (fun t ht hW => ⟨⟨(), rfl, trivial, by rw [ht]; exact hP, va_K.moved hW.alike hK, hD⟩, hS.F ht⟩) hS.2.2 d_Model_raise_27
set_option maxHeartbeats 4000000 in
set_option maxRecDepth 100000 in
theorem sp_Model_var (l : Launch) (dC : Nat → ClassId) (dI : Nat → Nat → Nat) (ea ev ad : Nat → Nat) (km : Nat → ClassId) (F : gF) (nf d : Nat) (T0 : gSt) (p1 : Int32) (r0 : Int32) (rl0 : Int64) (T9 : gSt) (hR : rb_Model_var F nf T0 p1 = some (r0, rl0, T9)) : GMi l dC dI LM ad km ea ev y_Model_var w_Model_var (rmD (d + 1)) [.ref (ad 0), .int p1] T0 r0 T9 := by
  intro sz
  refine Met.ofW (cc := b_Model_var) (maxL := 2) (ret := (some .int)) (by decide) rfl ?_
  intro p e s m args below meth c s₁ B hml hv
  obtain ⟨rfl, hsz, hP, hK, hD0, hnw, henv⟩ := hv
  have hx := B.exec
  have hb := B.bytes
  have hr := B.returns
  have hT : ∀ w ∈ lw_good, w.before _ s = true := fun w h => atoms_spec (ws := w_Model_var) B.pre w (List.mem_cons_of_mem _ h)
  have hown : s.vm.findClass R_Model = some m.cls := findClass_of_methodNamed B.named
  subst hsz
  have hD := hD0.self (sz := s.heap.size)
  clear hD0
  generalize hAe : va_A (gW LM ad km T0) s.heap.size = A at hD henv ⊢
  have hA : ∀ q : Nat, s.heap.size ≤ q → A q := fun q h => by rw [← hAe]; exact Or.inr h
  have hS : va_S A s.heap s.heap [] := va_S.rf
  have hl := lv_entry ([.ref (ad 0), .int p1]) (n := 2) (Nat.le_of_ble_eq_true rfl)
  rw [lg_entry_eq]
  generalize (lg_sl ([.ref (ad 0), .int p1]) ++ List.replicate (2 - (lg_sl ([.ref (ad 0), .int p1])).length) Slot.unset).toArray = ls at hl ⊢
  have hl : lv_has ls 2 [(0, .ref (ad 0)), (1, .int p1)] := hl
  unfold rb_Model_var at hR
  refine lv_bipush (v := 20) hx hb d_Model_var_0 (by decide) ?_
  refine lv_aload_n hx hb d_Model_var_2 rfl (lv_at hl 0 rfl) ?_
  refine rd_Model_808 hx hb hT hown hK hP d_Model_var_3 ?_
  refine lv_iconst (v := 1) hx hb d_Model_var_6 (by decide) ?_
  refine lv_isub hx hb d_Model_var_7 ?_
  refine lv_imul hx hb d_Model_var_8 ?_
  refine lv_iload_n hx hb d_Model_var_9 rfl (lv_at hl 1 rfl) ?_
  refine lv_iadd hx hb d_Model_var_10 ?_
  obtain ⟨e1, -, e3⟩ := re_e hR
  subst e1; subst e3
  exact W.iret (v := ((20 : Int32) * ((T0.1 103 0) - (1 : Int32))) + p1) hx hb hr (fun t ht hW => ⟨⟨((20 : Int32) * ((T0.1 103 0) - (1 : Int32))) + p1, (), rfl, rfl, by rw [ht]; exact hP, va_K.moved hW.alike hK, hD⟩, hS.F ht⟩) hS.2.2 d_Model_var_11
set_option maxHeartbeats 4000000 in
set_option maxRecDepth 100000 in
theorem sp_Model_regionIndex (l : Launch) (dC : Nat → ClassId) (dI : Nat → Nat → Nat) (ea ev ad : Nat → Nat) (km : Nat → ClassId) (F : gF) (nf d : Nat) (T0 : gSt) (p1 : Int32) (r0 : Int32) (rl0 : Int64) (T9 : gSt) (hR : rb_Model_regionIndex F nf T0 p1 = some (r0, rl0, T9)) : GMi l dC dI LM ad km ea ev y_Model_regionIndex w_Model_regionIndex (rmD (d + 1)) [.ref (ad 0), .int p1] T0 r0 T9 := by
  intro sz
  refine Met.ofW (cc := b_Model_regionIndex) (maxL := 2) (ret := (some .int)) (by decide) rfl ?_
  intro p e s m args below meth c s₁ B hml hv
  obtain ⟨rfl, hsz, hP, hK, hD0, hnw, henv⟩ := hv
  have hx := B.exec
  have hb := B.bytes
  have hr := B.returns
  have hT : ∀ w ∈ lw_good, w.before _ s = true := fun w h => atoms_spec (ws := w_Model_regionIndex) B.pre w (List.mem_cons_of_mem _ h)
  have hown : s.vm.findClass R_Model = some m.cls := findClass_of_methodNamed B.named
  subst hsz
  have hD := hD0.self (sz := s.heap.size)
  clear hD0
  generalize hAe : va_A (gW LM ad km T0) s.heap.size = A at hD henv ⊢
  have hA : ∀ q : Nat, s.heap.size ≤ q → A q := fun q h => by rw [← hAe]; exact Or.inr h
  have hS : va_S A s.heap s.heap [] := va_S.rf
  have hl := lv_entry ([.ref (ad 0), .int p1]) (n := 2) (Nat.le_of_ble_eq_true rfl)
  rw [lg_entry_eq]
  generalize (lg_sl ([.ref (ad 0), .int p1]) ++ List.replicate (2 - (lg_sl ([.ref (ad 0), .int p1])).length) Slot.unset).toArray = ls at hl ⊢
  have hl : lv_has ls 2 [(0, .ref (ad 0)), (1, .int p1)] := hl
  unfold rb_Model_regionIndex at hR
  refine lv_iload_n hx hb d_Model_regionIndex_0 rfl (lv_at hl 1 rfl) ?_
  refine lv_if_ne (tgt := 8) hx hb d_Model_regionIndex_1 (by decide) (fun c1 => ?_) (fun c1 => ?_)
  · replace hR := if_n c1 hR
    refine lv_aload_n hx hb d_Model_regionIndex_8 rfl (lv_at hl 0 rfl) ?_
    refine rd_Model_240 hx hb hT hown hK hP d_Model_regionIndex_9 ?_
    refine lv_bipush (v := 12) hx hb d_Model_regionIndex_12 (by decide) ?_
    refine lv_aload_n hx hb d_Model_regionIndex_14 rfl (lv_at hl 0 rfl) ?_
    refine rd_Model_808 hx hb hT hown hK hP d_Model_regionIndex_15 ?_
    refine lv_iconst (v := 1) hx hb d_Model_regionIndex_18 (by decide) ?_
    refine lv_isub hx hb d_Model_regionIndex_19 ?_
    refine lv_imul hx hb d_Model_regionIndex_20 ?_
    refine lv_iload_n hx hb d_Model_regionIndex_21 rfl (lv_at hl 1 rfl) ?_
    refine lv_iadd hx hb d_Model_regionIndex_22 ?_
    replace hR := gd_e hR
    obtain ⟨b2, hR⟩ := hR
    refine laM_75 hx hb hK hP b2 d_Model_regionIndex_23 ?_
    obtain ⟨e1, -, e3⟩ := re_e hR
    subst e1; subst e3
    exact W.iret (v := T0.1 121 (((12 : Int32) * ((T0.1 103 0) - (1 : Int32))) + p1).toNatClampNeg) hx hb hr (fun t ht hW => ⟨⟨T0.1 121 (((12 : Int32) * ((T0.1 103 0) - (1 : Int32))) + p1).toNatClampNeg, (), rfl, rfl, by rw [ht]; exact hP, va_K.moved hW.alike hK, hD⟩, hS.F ht⟩) hS.2.2 d_Model_regionIndex_24
  · replace hR := if_p c1 hR
    refine lv_iconst (v := 0) hx hb d_Model_regionIndex_4 (by decide) ?_
    refine lv_goto (tgt := 24) hx hb d_Model_regionIndex_5 (by decide) ?_
    obtain ⟨e1, -, e3⟩ := re_e hR
    subst e1; subst e3
    exact W.iret (v := (0 : Int32)) hx hb hr (fun t ht hW => ⟨⟨(0 : Int32), (), rfl, rfl, by rw [ht]; exact hP, va_K.moved hW.alike hK, hD⟩, hS.F ht⟩) hS.2.2 d_Model_regionIndex_24
set_option maxHeartbeats 4000000 in
set_option maxRecDepth 100000 in
theorem sp_Model_goOn (l : Launch) (dC : Nat → ClassId) (dI : Nat → Nat → Nat) (ea ev ad : Nat → Nat) (km : Nat → ClassId) (F : gF) (nf d : Nat) (h_Model_run_IIII : mt_Model_run_IIII l dC dI ea ev ad km F d) (T0 : gSt) (r0 : Int32) (rl0 : Int64) (T9 : gSt) (hR : rb_Model_goOn F nf T0 = some (r0, rl0, T9)) : GMv l dC dI LM ad km ea ev y_Model_goOn w_Model_goOn (rmD (d + 1)) [.ref (ad 0)] T0 T9 := by
  intro sz
  refine Met.ofW (cc := b_Model_goOn) (maxL := 2) (ret := none) (by decide) rfl ?_
  intro p e s m args below meth c s₁ B hml hv
  obtain ⟨rfl, hsz, hP, hK, hD0, hnw, henv⟩ := hv
  have hx := B.exec
  have hb := B.bytes
  have hr := B.returns
  have hT : ∀ w ∈ lw_good, w.before _ s = true := fun w h => atoms_spec (ws := w_Model_goOn) B.pre w (List.mem_cons_of_mem _ h)
  have hown : s.vm.findClass R_Model = some m.cls := findClass_of_methodNamed B.named
  subst hsz
  have hD := hD0.self (sz := s.heap.size)
  clear hD0
  generalize hAe : va_A (gW LM ad km T0) s.heap.size = A at hD henv ⊢
  have hA : ∀ q : Nat, s.heap.size ≤ q → A q := fun q h => by rw [← hAe]; exact Or.inr h
  have hS : va_S A s.heap s.heap [] := va_S.rf
  have hl := lv_entry ([.ref (ad 0)]) (n := 2) (Nat.le_of_ble_eq_true rfl)
  rw [lg_entry_eq]
  generalize (lg_sl ([.ref (ad 0)]) ++ List.replicate (2 - (lg_sl ([.ref (ad 0)])).length) Slot.unset).toArray = ls at hl ⊢
  have hl : lv_has ls 2 [(0, .ref (ad 0))] := hl
  obtain ⟨G, hG⟩ : ∃ G : Nat → List (Nat × Value) → List Value → gSt → Prop, G = (fun pc lv stk T => ∀ (H : Heap) (locs : List Loc), va_P (dC, dI) cls_all (gW LM ad km T) H → va_D A (gW LM ad km T) → va_S A s.heap H locs → ∀ (ls : Array Slot), lv_has ls 2 lv → W p l e (headSpec w_Model_goOn (rmD (d + 1))).room s m ([.ref (ad 0)] : List Value).toArray below meth c H locs 0 0 (MQ below (va_Qv (fun (_ : Unit) => True) (fun _ t => gPost dC dI LM ad km T9 A t) A) ([.ref (ad 0)] : List Value).toArray s 0 0 A) (F0 m pc ls stk)) := ⟨_, rfl⟩
  have lb_0 : ∀ (n : Nat) (T : gSt), rl_Model_goOn_0 F nf n T = some (r0, rl0, T9) → G 0 [(0, .ref (ad 0))] [] T := by
    intro n
    induction n with
    | zero => intro T hR; rw [rl_Model_goOn_0] at hR; cases hR
    | succ n ih =>
      intro T hR; rw [rl_Model_goOn_0] at hR; rw [hG]; intro H locs hP hD hS ls hl
      refine lv_aload_n hx hb d_Model_goOn_0 rfl (lv_at hl 0 rfl) ?_
      refine rd_Model_802 hx hb hT hown hK hP d_Model_goOn_1 ?_
      refine lv_iconst (v := 1) hx hb d_Model_goOn_4 (by decide) ?_
      refine lv_icmp_ne (tgt := 66) hx hb d_Model_goOn_5 (by decide) (fun c1 => ?_) (fun c1 => ?_)
      · replace hR := if_n c1 hR
        obtain ⟨-, -, e3⟩ := re_e hR
        subst e3
        exact W.vret hx hb hr (fun t ht hW => ⟨⟨(), rfl, trivial, by rw [ht]; exact hP, va_K.moved hW.alike hK, hD⟩, hS.F ht⟩) hS.2.2 d_Model_goOn_66
      · replace hR := if_p c1 hR
        refine lv_aload_n hx hb d_Model_goOn_8 rfl (lv_at hl 0 rfl) ?_
        refine rd_Model_195 hx hb hT hown hK hP d_Model_goOn_9 ?_
        refine lv_aload_n hx hb d_Model_goOn_12 rfl (lv_at hl 0 rfl) ?_
        refine rd_Model_863 hx hb hT hown hK hP d_Model_goOn_13 ?_
        replace hR := gd_e hR
        obtain ⟨b2, hR⟩ := hR
        refine laM_60 hx hb hK hP b2 d_Model_goOn_16 ?_
        refine lv_if_eq (tgt := 66) hx hb d_Model_goOn_17 (by decide) (fun c3 => ?_) (fun c3 => ?_)
        · replace hR := if_p c3 hR
          obtain ⟨-, -, e3⟩ := re_e hR
          subst e3
          exact W.vret hx hb hr (fun t ht hW => ⟨⟨(), rfl, trivial, by rw [ht]; exact hP, va_K.moved hW.alike hK, hD⟩, hS.F ht⟩) hS.2.2 d_Model_goOn_66
        · replace hR := if_n c3 hR
          refine lv_aload_n hx hb d_Model_goOn_20 rfl (lv_at hl 0 rfl) ?_
          refine rd_Model_863 hx hb hT hown hK hP d_Model_goOn_21 ?_
          refine lv_topi (fun z4 e4 => ?_)
          replace hR := vK_e e4 hR
          refine lv_istore_n (lv' := [(1, .int z4), (0, .ref (ad 0))]) hx hb d_Model_goOn_24 rfl hl (by decide) rfl (fun ls hl => ?_)
          refine lv_aload_n hx hb d_Model_goOn_25 rfl (lv_at hl 1 rfl) ?_
          refine lv_dup hx hb d_Model_goOn_26 rfl ?_
          refine rd_Model_863 hx hb hT hown hK hP d_Model_goOn_27 ?_
          refine lv_iconst (v := 1) hx hb d_Model_goOn_30 (by decide) ?_
          refine lv_iadd hx hb d_Model_goOn_31 ?_
          refine wr_Model_863 hx hb hT hown hK hP hD hS d_Model_goOn_32 (fun T5 eT H locs hP hD hS => ?_)
          replace hR := stK_e eT hR
          clear eT
          refine lv_aload_n hx hb d_Model_goOn_35 rfl (lv_at hl 1 rfl) ?_
          refine lv_aload_n hx hb d_Model_goOn_36 rfl (lv_at hl 1 rfl) ?_
          refine rd_Model_195 hx hb hT hown hK hP d_Model_goOn_37 ?_
          refine lv_iload_n hx hb d_Model_goOn_40 rfl (lv_at hl 0 rfl) ?_
          replace hR := gd_e hR
          obtain ⟨b6, hR⟩ := hR
          refine laM_60 hx hb hK hP b6 d_Model_goOn_41 ?_
          refine lv_aload_n hx hb d_Model_goOn_42 rfl (lv_at hl 1 rfl) ?_
          refine rd_Model_198 hx hb hT hown hK hP d_Model_goOn_43 ?_
          refine lv_iload_n hx hb d_Model_goOn_46 rfl (lv_at hl 0 rfl) ?_
          replace hR := gd_e hR
          obtain ⟨b7, hR⟩ := hR
          refine laM_61 hx hb hK hP b7 d_Model_goOn_47 ?_
          refine lv_aload_n hx hb d_Model_goOn_48 rfl (lv_at hl 1 rfl) ?_
          refine rd_Model_201 hx hb hT hown hK hP d_Model_goOn_49 ?_
          refine lv_iload_n hx hb d_Model_goOn_52 rfl (lv_at hl 0 rfl) ?_
          replace hR := gd_e hR
          obtain ⟨b8, hR⟩ := hR
          refine laM_62 hx hb hK hP b8 d_Model_goOn_53 ?_
          refine lv_aload_n hx hb d_Model_goOn_54 rfl (lv_at hl 1 rfl) ?_
          refine rd_Model_204 hx hb hT hown hK hP d_Model_goOn_55 ?_
          refine lv_iload_n hx hb d_Model_goOn_58 rfl (lv_at hl 0 rfl) ?_
          replace hR := gd_e hR
          obtain ⟨b9, hR⟩ := hR
          refine laM_63 hx hb hK hP b9 d_Model_goOn_59 ?_
          replace hR := bi_e hR
          obtain ⟨r10, l10, T10, hc10, hR⟩ := hR
          refine gcV_v (rest := []) ⟨hx, hb, hml, hown, hT⟩ (h_Model_run_IIII _ _ _ _ _ _ _ _ hc10) (cwV 4 hT (gV ml_Model_866 im_Model_run_IIII se_Model_run_IIII ini_Model co_Model_run_IIII) rfl rfl rfl pd_Model_run_IIII ⟨rm_hi, rm_lo (Nat.le_of_ble_eq_true rfl)⟩) hK hP hD hS hA hnw henv (Nat.le_of_ble_eq_true rfl) rfl rfl hl.1 rfl (Nat.le_of_ble_eq_true rfl) d_Model_goOn_60 ⟨Nat.le_refl _, Nat.le_refl _⟩ (fun H locs hP hD hS => ?_)
          clear hc10
          refine lv_goto (tgt := 0) hx hb d_Model_goOn_63 (by decide) ?_
          have g := ih T10 hR
          rw [hG] at g
          exact g _ _ hP hD hS _ (lv_sub hl [1] rfl)
  unfold rb_Model_goOn at hR
  have g := lb_0 nf T0 hR
  rw [hG] at g
  exact g _ _ hP hD hS _ (lv_sub hl [0] rfl)
set_option maxHeartbeats 4000000 in
set_option maxRecDepth 100000 in
theorem sp_Model_run_IIII (l : Launch) (dC : Nat → ClassId) (dI : Nat → Nat → Nat) (ea ev ad : Nat → Nat) (km : Nat → ClassId) (F : gF) (nf d : Nat) (h_Model_push : mt_Model_push l dC dI ea ev ad km F d) (h_Model_input_ : mt_Model_input_ l dC dI ea ev ad km F d) (h_Model_var : mt_Model_var l dC dI ea ev ad km F d) (h_Model_touch : mt_Model_touch l dC dI ea ev ad km F d) (h_Model_makeBy : mt_Model_makeBy l dC dI ea ev ad km F d) (h_Model_invoke : mt_Model_invoke l dC dI ea ev ad km F d) (h_Model_reckon : mt_Model_reckon l dC dI ea ev ad km F d) (h_Model_back : mt_Model_back l dC dI ea ev ad km F d) (h_Model_raise : mt_Model_raise l dC dI ea ev ad km F d) (h_Model_begin : mt_Model_begin l dC dI ea ev ad km F d) (h_Model_shrink : mt_Model_shrink l dC dI ea ev ad km F d) (T0 : gSt) (p1 : Int32) (p2 : Int32) (p3 : Int32) (p4 : Int32) (r0 : Int32) (rl0 : Int64) (T9 : gSt) (hR : rb_Model_run_IIII F nf T0 p1 p2 p3 p4 = some (r0, rl0, T9)) : GMv l dC dI LM ad km ea ev y_Model_run_IIII w_Model_run_IIII (rmD (d + 1)) [.ref (ad 0), .int p1, .int p2, .int p3, .int p4] T0 T9 := by
  intro sz
  refine Met.ofW (cc := b_Model_run_IIII) (maxL := 6) (ret := none) (by decide) rfl ?_
  intro p e s m args below meth c s₁ B hml hv
  obtain ⟨rfl, hsz, hP, hK, hD0, hnw, henv⟩ := hv
  have hx := B.exec
  have hb := B.bytes
  have hr := B.returns
  have hT : ∀ w ∈ lw_good, w.before _ s = true := fun w h => atoms_spec (ws := w_Model_run_IIII) B.pre w (List.mem_cons_of_mem _ h)
  have hown : s.vm.findClass R_Model = some m.cls := findClass_of_methodNamed B.named
  subst hsz
  have hD := hD0.self (sz := s.heap.size)
  clear hD0
  generalize hAe : va_A (gW LM ad km T0) s.heap.size = A at hD henv ⊢
  have hA : ∀ q : Nat, s.heap.size ≤ q → A q := fun q h => by rw [← hAe]; exact Or.inr h
  have hS : va_S A s.heap s.heap [] := va_S.rf
  have hl := lv_entry ([.ref (ad 0), .int p1, .int p2, .int p3, .int p4]) (n := 6) (Nat.le_of_ble_eq_true rfl)
  rw [lg_entry_eq]
  generalize (lg_sl ([.ref (ad 0), .int p1, .int p2, .int p3, .int p4]) ++ List.replicate (6 - (lg_sl ([.ref (ad 0), .int p1, .int p2, .int p3, .int p4])).length) Slot.unset).toArray = ls at hl ⊢
  have hl : lv_has ls 6 [(0, .ref (ad 0)), (1, .int p1), (2, .int p2), (3, .int p3), (4, .int p4)] := hl
  obtain ⟨G, hG⟩ : ∃ G : Nat → List (Nat × Value) → List Value → gSt → Prop, G = (fun pc lv stk T => ∀ (H : Heap) (locs : List Loc), va_P (dC, dI) cls_all (gW LM ad km T) H → va_D A (gW LM ad km T) → va_S A s.heap H locs → ∀ (ls : Array Slot), lv_has ls 6 lv → W p l e (headSpec w_Model_run_IIII (rmD (d + 1))).room s m ([.ref (ad 0), .int p1, .int p2, .int p3, .int p4] : List Value).toArray below meth c H locs 0 0 (MQ below (va_Qv (fun (_ : Unit) => True) (fun _ t => gPost dC dI LM ad km T9 A t) A) ([.ref (ad 0), .int p1, .int p2, .int p3, .int p4] : List Value).toArray s 0 0 A) (F0 m pc ls stk)) := ⟨_, rfl⟩
  have lb_537 : ∀ (T : gSt) (x2 : Int32), rj_Model_run_IIII_537 F nf T x2 = some (r0, rl0, T9) → G 537 [(0, .ref (ad 0)), (2, .int x2)] [] T := by
    intro T x2 hR; unfold rj_Model_run_IIII_537 at hR; rw [hG]; intro H locs hP hD hS ls hl
    refine lv_aload_n hx hb d_Model_run_IIII_537 rfl (lv_at hl 0 rfl) ?_
    refine rd_Model_240 hx hb hT hown hK hP d_Model_run_IIII_538 ?_
    refine lv_bipush (v := 12) hx hb d_Model_run_IIII_541 (by decide) ?_
    refine lv_aload_n hx hb d_Model_run_IIII_543 rfl (lv_at hl 0 rfl) ?_
    refine rd_Model_808 hx hb hT hown hK hP d_Model_run_IIII_544 ?_
    refine lv_iconst (v := 1) hx hb d_Model_run_IIII_547 (by decide) ?_
    refine lv_isub hx hb d_Model_run_IIII_548 ?_
    refine lv_imul hx hb d_Model_run_IIII_549 ?_
    refine lv_iload_n hx hb d_Model_run_IIII_550 rfl (lv_at hl 1 rfl) ?_
    refine lv_iadd hx hb d_Model_run_IIII_551 ?_
    replace hR := gd_e hR
    obtain ⟨b114, hR⟩ := hR
    refine laM_75 hx hb hK hP b114 d_Model_run_IIII_552 ?_
    refine lv_if_lt (tgt := 576) hx hb d_Model_run_IIII_553 (by decide) (fun c115 => ?_) (fun c115 => ?_)
    · replace hR := if_p c115 hR
      refine lv_aload_n hx hb d_Model_run_IIII_576 rfl (lv_at hl 0 rfl) ?_
      refine rd_Model_240 hx hb hT hown hK hP d_Model_run_IIII_577 ?_
      refine lv_bipush (v := 12) hx hb d_Model_run_IIII_580 (by decide) ?_
      refine lv_aload_n hx hb d_Model_run_IIII_582 rfl (lv_at hl 0 rfl) ?_
      refine rd_Model_808 hx hb hT hown hK hP d_Model_run_IIII_583 ?_
      refine lv_iconst (v := 1) hx hb d_Model_run_IIII_586 (by decide) ?_
      refine lv_isub hx hb d_Model_run_IIII_587 ?_
      refine lv_imul hx hb d_Model_run_IIII_588 ?_
      refine lv_iload_n hx hb d_Model_run_IIII_589 rfl (lv_at hl 1 rfl) ?_
      refine lv_iadd hx hb d_Model_run_IIII_590 ?_
      refine lv_iconst (v := (-1)) hx hb d_Model_run_IIII_591 (by decide) ?_
      replace hR := gd_e hR
      obtain ⟨b116, hR⟩ := hR
      refine saM_75 hx hb hK hP hD hS b116 d_Model_run_IIII_592 (fun T116 eT H locs hP hD hS => ?_)
      replace hR := stK_e eT hR
      clear eT
      obtain ⟨-, -, e3⟩ := re_e hR
      subst e3
      exact W.vret hx hb hr (fun t ht hW => ⟨⟨(), rfl, trivial, by rw [ht]; exact hP, va_K.moved hW.alike hK, hD⟩, hS.F ht⟩) hS.2.2 d_Model_run_IIII_593
    · replace hR := if_n c115 hR
      refine lv_aload_n hx hb d_Model_run_IIII_556 rfl (lv_at hl 0 rfl) ?_
      refine lv_aload_n hx hb d_Model_run_IIII_557 rfl (lv_at hl 0 rfl) ?_
      refine rd_Model_240 hx hb hT hown hK hP d_Model_run_IIII_558 ?_
      refine lv_bipush (v := 12) hx hb d_Model_run_IIII_561 (by decide) ?_
      refine lv_aload_n hx hb d_Model_run_IIII_563 rfl (lv_at hl 0 rfl) ?_
      refine rd_Model_808 hx hb hT hown hK hP d_Model_run_IIII_564 ?_
      refine lv_iconst (v := 1) hx hb d_Model_run_IIII_567 (by decide) ?_
      refine lv_isub hx hb d_Model_run_IIII_568 ?_
      refine lv_imul hx hb d_Model_run_IIII_569 ?_
      refine lv_iload_n hx hb d_Model_run_IIII_570 rfl (lv_at hl 1 rfl) ?_
      refine lv_iadd hx hb d_Model_run_IIII_571 ?_
      replace hR := gd_e hR
      obtain ⟨b117, hR⟩ := hR
      refine laM_75 hx hb hK hP b117 d_Model_run_IIII_572 ?_
      replace hR := bi_e hR
      obtain ⟨r118, l118, T118, hc118, hR⟩ := hR
      refine gcV_v (rest := []) ⟨hx, hb, hml, hown, hT⟩ (h_Model_shrink _ _ _ _ _ hc118) (cwV 1 hT (gV ml_Model_860 im_Model_shrink se_Model_shrink ini_Model co_Model_shrink) rfl rfl rfl pd_Model_shrink ⟨rm_hi, rm_lo (Nat.le_of_ble_eq_true rfl)⟩) hK hP hD hS hA hnw henv (Nat.le_of_ble_eq_true rfl) rfl rfl hl.1 rfl (Nat.le_of_ble_eq_true rfl) d_Model_run_IIII_573 ⟨Nat.le_refl _, Nat.le_refl _⟩ (fun H locs hP hD hS => ?_)
      clear hc118
      refine lv_aload_n hx hb d_Model_run_IIII_576 rfl (lv_at hl 0 rfl) ?_
      refine rd_Model_240 hx hb hT hown hK hP d_Model_run_IIII_577 ?_
      refine lv_bipush (v := 12) hx hb d_Model_run_IIII_580 (by decide) ?_
      refine lv_aload_n hx hb d_Model_run_IIII_582 rfl (lv_at hl 0 rfl) ?_
      refine rd_Model_808 hx hb hT hown hK hP d_Model_run_IIII_583 ?_
      refine lv_iconst (v := 1) hx hb d_Model_run_IIII_586 (by decide) ?_
      refine lv_isub hx hb d_Model_run_IIII_587 ?_
      refine lv_imul hx hb d_Model_run_IIII_588 ?_
      refine lv_iload_n hx hb d_Model_run_IIII_589 rfl (lv_at hl 1 rfl) ?_
      refine lv_iadd hx hb d_Model_run_IIII_590 ?_
      refine lv_iconst (v := (-1)) hx hb d_Model_run_IIII_591 (by decide) ?_
      replace hR := gd_e hR
      obtain ⟨b119, hR⟩ := hR
      refine saM_75 hx hb hK hP hD hS b119 d_Model_run_IIII_592 (fun T119 eT H locs hP hD hS => ?_)
      replace hR := stK_e eT hR
      clear eT
      obtain ⟨-, -, e3⟩ := re_e hR
      subst e3
      exact W.vret hx hb hr (fun t ht hW => ⟨⟨(), rfl, trivial, by rw [ht]; exact hP, va_K.moved hW.alike hK, hD⟩, hS.F ht⟩) hS.2.2 d_Model_run_IIII_593
  unfold rb_Model_run_IIII at hR
  refine lv_iload_n hx hb d_Model_run_IIII_0 rfl (lv_at hl 1 rfl) ?_
  by_cases c1 : p1 = (1 : Int32)
  · replace hR := if_p c1 hR
    refine lv_tableIn (off := 159) (tgt := 160) hx hb d_Model_run_IIII_1 (by rw [c1]; decide) (by rw [c1]; decide) (by rw [c1]; decide) (by decide) ?_
    refine lv_aload_n hx hb d_Model_run_IIII_160 rfl (lv_at hl 0 rfl) ?_
    refine lv_iload_n hx hb d_Model_run_IIII_161 rfl (lv_at hl 2 rfl) ?_
    refine lv_iconst (v := (-1)) hx hb d_Model_run_IIII_162 (by decide) ?_
    refine lv_iconst (v := 0) hx hb d_Model_run_IIII_163 (by decide) ?_
    replace hR := bi_e hR
    obtain ⟨r2, l2, T2, hc2, hR⟩ := hR
    refine gcV_v (rest := []) ⟨hx, hb, hml, hown, hT⟩ (h_Model_push _ _ _ _ _ _ _ hc2) (cwV 3 hT (gV ml_Model_857 im_Model_push se_Model_push ini_Model co_Model_push) rfl rfl rfl pd_Model_push ⟨rm_hi, rm_lo (Nat.le_of_ble_eq_true rfl)⟩) hK hP hD hS hA hnw henv (Nat.le_of_ble_eq_true rfl) rfl rfl hl.1 rfl (Nat.le_of_ble_eq_true rfl) d_Model_run_IIII_164 ⟨Nat.le_refl _, Nat.le_refl _⟩ (fun H locs hP hD hS => ?_)
    clear hc2
    obtain ⟨-, -, e3⟩ := re_e hR
    subst e3
    exact W.vret hx hb hr (fun t ht hW => ⟨⟨(), rfl, trivial, by rw [ht]; exact hP, va_K.moved hW.alike hK, hD⟩, hS.F ht⟩) hS.2.2 d_Model_run_IIII_167
  replace hR := if_n c1 hR
  by_cases c3 : p1 = (2 : Int32)
  · replace hR := if_p c3 hR
    refine lv_tableIn (off := 167) (tgt := 168) hx hb d_Model_run_IIII_1 (by rw [c3]; decide) (by rw [c3]; decide) (by rw [c3]; decide) (by decide) ?_
    refine lv_aload_n hx hb d_Model_run_IIII_168 rfl (lv_at hl 0 rfl) ?_
    refine lv_iconst (v := 0) hx hb d_Model_run_IIII_169 (by decide) ?_
    refine lv_iconst (v := (-1)) hx hb d_Model_run_IIII_170 (by decide) ?_
    refine lv_iconst (v := 0) hx hb d_Model_run_IIII_171 (by decide) ?_
    replace hR := bi_e hR
    obtain ⟨r4, l4, T4, hc4, hR⟩ := hR
    refine gcV_v (rest := []) ⟨hx, hb, hml, hown, hT⟩ (h_Model_push _ _ _ _ _ _ _ hc4) (cwV 3 hT (gV ml_Model_857 im_Model_push se_Model_push ini_Model co_Model_push) rfl rfl rfl pd_Model_push ⟨rm_hi, rm_lo (Nat.le_of_ble_eq_true rfl)⟩) hK hP hD hS hA hnw henv (Nat.le_of_ble_eq_true rfl) rfl rfl hl.1 rfl (Nat.le_of_ble_eq_true rfl) d_Model_run_IIII_172 ⟨Nat.le_refl _, Nat.le_refl _⟩ (fun H locs hP hD hS => ?_)
    clear hc4
    obtain ⟨-, -, e3⟩ := re_e hR
    subst e3
    exact W.vret hx hb hr (fun t ht hW => ⟨⟨(), rfl, trivial, by rw [ht]; exact hP, va_K.moved hW.alike hK, hD⟩, hS.F ht⟩) hS.2.2 d_Model_run_IIII_175
  replace hR := if_n c3 hR
  by_cases c5 : p1 = (3 : Int32)
  · replace hR := if_p c5 hR
    refine lv_tableIn (off := 175) (tgt := 176) hx hb d_Model_run_IIII_1 (by rw [c5]; decide) (by rw [c5]; decide) (by rw [c5]; decide) (by decide) ?_
    refine lv_aload_n hx hb d_Model_run_IIII_176 rfl (lv_at hl 0 rfl) ?_
    refine lv_aload_n hx hb d_Model_run_IIII_177 rfl (lv_at hl 0 rfl) ?_
    replace hR := bi_e hR
    obtain ⟨r6, l6, T6, hc6, hR⟩ := hR
    refine gcV_i (rest := [.ref (ad 0)]) ⟨hx, hb, hml, hown, hT⟩ (h_Model_input_ _ _ _ _ hc6) (cwV 0 hT (gV ml_Model_870 im_Model_input_ se_Model_input_ ini_Model co_Model_input_) rfl rfl rfl pd_Model_input_ ⟨rm_hi, rm_lo (Nat.le_of_ble_eq_true rfl)⟩) hK hP hD hS hA hnw henv (Nat.le_of_ble_eq_true rfl) rfl rfl hl.1 rfl (Nat.le_of_ble_eq_true rfl) d_Model_run_IIII_178 ⟨Nat.le_refl _, Nat.le_refl _⟩ (fun H locs hP hD hS => ?_)
    clear hc6
    refine lv_iconst (v := (-1)) hx hb d_Model_run_IIII_181 (by decide) ?_
    refine lv_iconst (v := 0) hx hb d_Model_run_IIII_182 (by decide) ?_
    replace hR := bi_e hR
    obtain ⟨r7, l7, T7, hc7, hR⟩ := hR
    refine gcV_v (rest := []) ⟨hx, hb, hml, hown, hT⟩ (h_Model_push _ _ _ _ _ _ _ hc7) (cwV 3 hT (gV ml_Model_857 im_Model_push se_Model_push ini_Model co_Model_push) rfl rfl rfl pd_Model_push ⟨rm_hi, rm_lo (Nat.le_of_ble_eq_true rfl)⟩) hK hP hD hS hA hnw henv (Nat.le_of_ble_eq_true rfl) rfl rfl hl.1 rfl (Nat.le_of_ble_eq_true rfl) d_Model_run_IIII_183 ⟨Nat.le_refl _, Nat.le_refl _⟩ (fun H locs hP hD hS => ?_)
    clear hc7
    obtain ⟨-, -, e3⟩ := re_e hR
    subst e3
    exact W.vret hx hb hr (fun t ht hW => ⟨⟨(), rfl, trivial, by rw [ht]; exact hP, va_K.moved hW.alike hK, hD⟩, hS.F ht⟩) hS.2.2 d_Model_run_IIII_186
  replace hR := if_n c5 hR
  by_cases c8 : p1 = (4 : Int32)
  · replace hR := if_p c8 hR
    refine lv_tableIn (off := 186) (tgt := 187) hx hb d_Model_run_IIII_1 (by rw [c8]; decide) (by rw [c8]; decide) (by rw [c8]; decide) (by decide) ?_
    refine lv_aload_n hx hb d_Model_run_IIII_187 rfl (lv_at hl 0 rfl) ?_
    refine lv_aload_n hx hb d_Model_run_IIII_188 rfl (lv_at hl 0 rfl) ?_
    refine rd_Model_243 hx hb hT hown hK hP d_Model_run_IIII_189 ?_
    refine lv_bipush (v := 40) hx hb d_Model_run_IIII_192 (by decide) ?_
    refine lv_aload_n hx hb d_Model_run_IIII_194 rfl (lv_at hl 0 rfl) ?_
    refine rd_Model_808 hx hb hT hown hK hP d_Model_run_IIII_195 ?_
    refine lv_iconst (v := 1) hx hb d_Model_run_IIII_198 (by decide) ?_
    refine lv_isub hx hb d_Model_run_IIII_199 ?_
    refine lv_imul hx hb d_Model_run_IIII_200 ?_
    refine lv_iload_n hx hb d_Model_run_IIII_201 rfl (lv_at hl 2 rfl) ?_
    refine lv_iadd hx hb d_Model_run_IIII_202 ?_
    replace hR := gd_e hR
    obtain ⟨b9, hR⟩ := hR
    refine laM_76 hx hb hK hP b9 d_Model_run_IIII_203 ?_
    refine lv_iconst (v := (-1)) hx hb d_Model_run_IIII_204 (by decide) ?_
    refine lv_iconst (v := 0) hx hb d_Model_run_IIII_205 (by decide) ?_
    replace hR := bi_e hR
    obtain ⟨r10, l10, T10, hc10, hR⟩ := hR
    refine gcV_v (rest := []) ⟨hx, hb, hml, hown, hT⟩ (h_Model_push _ _ _ _ _ _ _ hc10) (cwV 3 hT (gV ml_Model_857 im_Model_push se_Model_push ini_Model co_Model_push) rfl rfl rfl pd_Model_push ⟨rm_hi, rm_lo (Nat.le_of_ble_eq_true rfl)⟩) hK hP hD hS hA hnw henv (Nat.le_of_ble_eq_true rfl) rfl rfl hl.1 rfl (Nat.le_of_ble_eq_true rfl) d_Model_run_IIII_206 ⟨Nat.le_refl _, Nat.le_refl _⟩ (fun H locs hP hD hS => ?_)
    clear hc10
    obtain ⟨-, -, e3⟩ := re_e hR
    subst e3
    exact W.vret hx hb hr (fun t ht hW => ⟨⟨(), rfl, trivial, by rw [ht]; exact hP, va_K.moved hW.alike hK, hD⟩, hS.F ht⟩) hS.2.2 d_Model_run_IIII_209
  replace hR := if_n c8 hR
  by_cases c11 : p1 = (5 : Int32)
  · replace hR := if_p c11 hR
    refine lv_tableIn (off := 209) (tgt := 210) hx hb d_Model_run_IIII_1 (by rw [c11]; decide) (by rw [c11]; decide) (by rw [c11]; decide) (by decide) ?_
    refine lv_aload_n hx hb d_Model_run_IIII_210 rfl (lv_at hl 0 rfl) ?_
    refine lv_aload_n hx hb d_Model_run_IIII_211 rfl (lv_at hl 0 rfl) ?_
    refine rd_Model_228 hx hb hT hown hK hP d_Model_run_IIII_212 ?_
    refine lv_aload_n hx hb d_Model_run_IIII_215 rfl (lv_at hl 0 rfl) ?_
    refine lv_iload_n hx hb d_Model_run_IIII_216 rfl (lv_at hl 2 rfl) ?_
    replace hR := bi_e hR
    obtain ⟨r12, l12, T12, hc12, hR⟩ := hR
    refine gcV_i (rest := [.ref (ad 72), .ref (ad 0)]) ⟨hx, hb, hml, hown, hT⟩ (h_Model_var _ _ _ _ _ hc12) (cwV 1 hT (gV ml_Model_873 im_Model_var se_Model_var ini_Model co_Model_var) rfl rfl rfl pd_Model_var ⟨rm_hi, rm_lo (Nat.le_of_ble_eq_true rfl)⟩) hK hP hD hS hA hnw henv (Nat.le_of_ble_eq_true rfl) rfl rfl hl.1 rfl (Nat.le_of_ble_eq_true rfl) d_Model_run_IIII_217 ⟨Nat.le_refl _, Nat.le_refl _⟩ (fun H locs hP hD hS => ?_)
    clear hc12
    replace hR := gd_e hR
    obtain ⟨b13, hR⟩ := hR
    refine laM_71 hx hb hK hP b13 d_Model_run_IIII_220 ?_
    refine lv_aload_n hx hb d_Model_run_IIII_221 rfl (lv_at hl 0 rfl) ?_
    refine rd_Model_231 hx hb hT hown hK hP d_Model_run_IIII_222 ?_
    refine lv_aload_n hx hb d_Model_run_IIII_225 rfl (lv_at hl 0 rfl) ?_
    refine lv_iload_n hx hb d_Model_run_IIII_226 rfl (lv_at hl 2 rfl) ?_
    replace hR := bi_e hR
    obtain ⟨r14, l14, T14, hc14, hR⟩ := hR
    refine gcV_i (rest := [.ref (ad 73), .int (T12.1 117 r12.toNatClampNeg), .ref (ad 0)]) ⟨hx, hb, hml, hown, hT⟩ (h_Model_var _ _ _ _ _ hc14) (cwV 1 hT (gV ml_Model_873 im_Model_var se_Model_var ini_Model co_Model_var) rfl rfl rfl pd_Model_var ⟨rm_hi, rm_lo (Nat.le_of_ble_eq_true rfl)⟩) hK hP hD hS hA hnw henv (Nat.le_of_ble_eq_true rfl) rfl rfl hl.1 rfl (Nat.le_of_ble_eq_true rfl) d_Model_run_IIII_227 ⟨Nat.le_refl _, Nat.le_refl _⟩ (fun H locs hP hD hS => ?_)
    clear hc14
    replace hR := gd_e hR
    obtain ⟨b15, hR⟩ := hR
    refine laM_72 hx hb hK hP b15 d_Model_run_IIII_230 ?_
    refine lv_aload_n hx hb d_Model_run_IIII_231 rfl (lv_at hl 0 rfl) ?_
    refine rd_Model_234 hx hb hT hown hK hP d_Model_run_IIII_232 ?_
    refine lv_aload_n hx hb d_Model_run_IIII_235 rfl (lv_at hl 0 rfl) ?_
    refine lv_iload_n hx hb d_Model_run_IIII_236 rfl (lv_at hl 2 rfl) ?_
    replace hR := bi_e hR
    obtain ⟨r16, l16, T16, hc16, hR⟩ := hR
    refine gcV_i (rest := [.ref (ad 74), .int (T14.1 118 r14.toNatClampNeg), .int (T12.1 117 r12.toNatClampNeg), .ref (ad 0)]) ⟨hx, hb, hml, hown, hT⟩ (h_Model_var _ _ _ _ _ hc16) (cwV 1 hT (gV ml_Model_873 im_Model_var se_Model_var ini_Model co_Model_var) rfl rfl rfl pd_Model_var ⟨rm_hi, rm_lo (Nat.le_of_ble_eq_true rfl)⟩) hK hP hD hS hA hnw henv (Nat.le_of_ble_eq_true rfl) rfl rfl hl.1 rfl (Nat.le_of_ble_eq_true rfl) d_Model_run_IIII_237 ⟨Nat.le_refl _, Nat.le_refl _⟩ (fun H locs hP hD hS => ?_)
    clear hc16
    replace hR := gd_e hR
    obtain ⟨b17, hR⟩ := hR
    refine laM_73 hx hb hK hP b17 d_Model_run_IIII_240 ?_
    replace hR := bi_e hR
    obtain ⟨r18, l18, T18, hc18, hR⟩ := hR
    refine gcV_v (rest := []) ⟨hx, hb, hml, hown, hT⟩ (h_Model_push _ _ _ _ _ _ _ hc18) (cwV 3 hT (gV ml_Model_857 im_Model_push se_Model_push ini_Model co_Model_push) rfl rfl rfl pd_Model_push ⟨rm_hi, rm_lo (Nat.le_of_ble_eq_true rfl)⟩) hK hP hD hS hA hnw henv (Nat.le_of_ble_eq_true rfl) rfl rfl hl.1 rfl (Nat.le_of_ble_eq_true rfl) d_Model_run_IIII_241 ⟨Nat.le_refl _, Nat.le_refl _⟩ (fun H locs hP hD hS => ?_)
    clear hc18
    refine lv_aload_n hx hb d_Model_run_IIII_244 rfl (lv_at hl 0 rfl) ?_
    refine rd_Model_216 hx hb hT hown hK hP d_Model_run_IIII_245 ?_
    refine lv_aload_n hx hb d_Model_run_IIII_248 rfl (lv_at hl 0 rfl) ?_
    refine rd_Model_799 hx hb hT hown hK hP d_Model_run_IIII_249 ?_
    refine lv_iconst (v := 1) hx hb d_Model_run_IIII_252 (by decide) ?_
    refine lv_isub hx hb d_Model_run_IIII_253 ?_
    refine lv_aload_n hx hb d_Model_run_IIII_254 rfl (lv_at hl 0 rfl) ?_
    refine rd_Model_237 hx hb hT hown hK hP d_Model_run_IIII_255 ?_
    refine lv_aload_n hx hb d_Model_run_IIII_258 rfl (lv_at hl 0 rfl) ?_
    refine lv_iload_n hx hb d_Model_run_IIII_259 rfl (lv_at hl 2 rfl) ?_
    replace hR := bi_e hR
    obtain ⟨r19, l19, T19, hc19, hR⟩ := hR
    refine gcV_i (rest := [.ref (ad 75), .int ((T18.1 109 0) - (1 : Int32)), .ref (ad 68)]) ⟨hx, hb, hml, hown, hT⟩ (h_Model_var _ _ _ _ _ hc19) (cwV 1 hT (gV ml_Model_873 im_Model_var se_Model_var ini_Model co_Model_var) rfl rfl rfl pd_Model_var ⟨rm_hi, rm_lo (Nat.le_of_ble_eq_true rfl)⟩) hK hP hD hS hA hnw henv (Nat.le_of_ble_eq_true rfl) rfl rfl hl.1 rfl (Nat.le_of_ble_eq_true rfl) d_Model_run_IIII_260 ⟨Nat.le_refl _, Nat.le_refl _⟩ (fun H locs hP hD hS => ?_)
    clear hc19
    replace hR := gd_e hR
    obtain ⟨b20, hR⟩ := hR
    refine laM_74 hx hb hK hP b20 d_Model_run_IIII_263 ?_
    replace hR := gd_e hR
    obtain ⟨b21, hR⟩ := hR
    refine saM_67 hx hb hK hP hD hS b21 d_Model_run_IIII_264 (fun T21 eT H locs hP hD hS => ?_)
    replace hR := stK_e eT hR
    clear eT
    obtain ⟨-, -, e3⟩ := re_e hR
    subst e3
    exact W.vret hx hb hr (fun t ht hW => ⟨⟨(), rfl, trivial, by rw [ht]; exact hP, va_K.moved hW.alike hK, hD⟩, hS.F ht⟩) hS.2.2 d_Model_run_IIII_265
  replace hR := if_n c11 hR
  by_cases c22 : p1 = (6 : Int32)
  · replace hR := if_p c22 hR
    refine lv_tableIn (off := 691) (tgt := 692) hx hb d_Model_run_IIII_1 (by rw [c22]; decide) (by rw [c22]; decide) (by rw [c22]; decide) (by decide) ?_
    refine lv_aload_n hx hb d_Model_run_IIII_692 rfl (lv_at hl 0 rfl) ?_
    refine lv_iload_n hx hb d_Model_run_IIII_693 rfl (lv_at hl 1 rfl) ?_
    refine lv_iload_n hx hb d_Model_run_IIII_694 rfl (lv_at hl 2 rfl) ?_
    refine lv_iload_n hx hb d_Model_run_IIII_695 rfl (lv_at hl 3 rfl) ?_
    replace hR := bi_e hR
    obtain ⟨r23, l23, T23, hc23, hR⟩ := hR
    refine gcV_v (rest := []) ⟨hx, hb, hml, hown, hT⟩ (h_Model_touch _ _ _ _ _ _ _ hc23) (cwV 3 hT (gV ml_Model_890 im_Model_touch se_Model_touch ini_Model co_Model_touch) rfl rfl rfl pd_Model_touch ⟨rm_hi, rm_lo (Nat.le_of_ble_eq_true rfl)⟩) hK hP hD hS hA hnw henv (Nat.le_of_ble_eq_true rfl) rfl rfl hl.1 rfl (Nat.le_of_ble_eq_true rfl) d_Model_run_IIII_696 ⟨Nat.le_refl _, Nat.le_refl _⟩ (fun H locs hP hD hS => ?_)
    clear hc23
    obtain ⟨-, -, e3⟩ := re_e hR
    subst e3
    exact W.vret hx hb hr (fun t ht hW => ⟨⟨(), rfl, trivial, by rw [ht]; exact hP, va_K.moved hW.alike hK, hD⟩, hS.F ht⟩) hS.2.2 d_Model_run_IIII_699
  replace hR := if_n c22 hR
  by_cases c24 : p1 = (7 : Int32)
  · replace hR := if_p c24 hR
    refine lv_tableIn (off := 691) (tgt := 692) hx hb d_Model_run_IIII_1 (by rw [c24]; decide) (by rw [c24]; decide) (by rw [c24]; decide) (by decide) ?_
    refine lv_aload_n hx hb d_Model_run_IIII_692 rfl (lv_at hl 0 rfl) ?_
    refine lv_iload_n hx hb d_Model_run_IIII_693 rfl (lv_at hl 1 rfl) ?_
    refine lv_iload_n hx hb d_Model_run_IIII_694 rfl (lv_at hl 2 rfl) ?_
    refine lv_iload_n hx hb d_Model_run_IIII_695 rfl (lv_at hl 3 rfl) ?_
    replace hR := bi_e hR
    obtain ⟨r25, l25, T25, hc25, hR⟩ := hR
    refine gcV_v (rest := []) ⟨hx, hb, hml, hown, hT⟩ (h_Model_touch _ _ _ _ _ _ _ hc25) (cwV 3 hT (gV ml_Model_890 im_Model_touch se_Model_touch ini_Model co_Model_touch) rfl rfl rfl pd_Model_touch ⟨rm_hi, rm_lo (Nat.le_of_ble_eq_true rfl)⟩) hK hP hD hS hA hnw henv (Nat.le_of_ble_eq_true rfl) rfl rfl hl.1 rfl (Nat.le_of_ble_eq_true rfl) d_Model_run_IIII_696 ⟨Nat.le_refl _, Nat.le_refl _⟩ (fun H locs hP hD hS => ?_)
    clear hc25
    obtain ⟨-, -, e3⟩ := re_e hR
    subst e3
    exact W.vret hx hb hr (fun t ht hW => ⟨⟨(), rfl, trivial, by rw [ht]; exact hP, va_K.moved hW.alike hK, hD⟩, hS.F ht⟩) hS.2.2 d_Model_run_IIII_699
  replace hR := if_n c24 hR
  by_cases c26 : p1 = (8 : Int32)
  · replace hR := if_p c26 hR
    refine lv_tableIn (off := 691) (tgt := 692) hx hb d_Model_run_IIII_1 (by rw [c26]; decide) (by rw [c26]; decide) (by rw [c26]; decide) (by decide) ?_
    refine lv_aload_n hx hb d_Model_run_IIII_692 rfl (lv_at hl 0 rfl) ?_
    refine lv_iload_n hx hb d_Model_run_IIII_693 rfl (lv_at hl 1 rfl) ?_
    refine lv_iload_n hx hb d_Model_run_IIII_694 rfl (lv_at hl 2 rfl) ?_
    refine lv_iload_n hx hb d_Model_run_IIII_695 rfl (lv_at hl 3 rfl) ?_
    replace hR := bi_e hR
    obtain ⟨r27, l27, T27, hc27, hR⟩ := hR
    refine gcV_v (rest := []) ⟨hx, hb, hml, hown, hT⟩ (h_Model_touch _ _ _ _ _ _ _ hc27) (cwV 3 hT (gV ml_Model_890 im_Model_touch se_Model_touch ini_Model co_Model_touch) rfl rfl rfl pd_Model_touch ⟨rm_hi, rm_lo (Nat.le_of_ble_eq_true rfl)⟩) hK hP hD hS hA hnw henv (Nat.le_of_ble_eq_true rfl) rfl rfl hl.1 rfl (Nat.le_of_ble_eq_true rfl) d_Model_run_IIII_696 ⟨Nat.le_refl _, Nat.le_refl _⟩ (fun H locs hP hD hS => ?_)
    clear hc27
    obtain ⟨-, -, e3⟩ := re_e hR
    subst e3
    exact W.vret hx hb hr (fun t ht hW => ⟨⟨(), rfl, trivial, by rw [ht]; exact hP, va_K.moved hW.alike hK, hD⟩, hS.F ht⟩) hS.2.2 d_Model_run_IIII_699
  replace hR := if_n c26 hR
  by_cases c28 : p1 = (9 : Int32)
  · replace hR := if_p c28 hR
    refine lv_tableIn (off := 691) (tgt := 692) hx hb d_Model_run_IIII_1 (by rw [c28]; decide) (by rw [c28]; decide) (by rw [c28]; decide) (by decide) ?_
    refine lv_aload_n hx hb d_Model_run_IIII_692 rfl (lv_at hl 0 rfl) ?_
    refine lv_iload_n hx hb d_Model_run_IIII_693 rfl (lv_at hl 1 rfl) ?_
    refine lv_iload_n hx hb d_Model_run_IIII_694 rfl (lv_at hl 2 rfl) ?_
    refine lv_iload_n hx hb d_Model_run_IIII_695 rfl (lv_at hl 3 rfl) ?_
    replace hR := bi_e hR
    obtain ⟨r29, l29, T29, hc29, hR⟩ := hR
    refine gcV_v (rest := []) ⟨hx, hb, hml, hown, hT⟩ (h_Model_touch _ _ _ _ _ _ _ hc29) (cwV 3 hT (gV ml_Model_890 im_Model_touch se_Model_touch ini_Model co_Model_touch) rfl rfl rfl pd_Model_touch ⟨rm_hi, rm_lo (Nat.le_of_ble_eq_true rfl)⟩) hK hP hD hS hA hnw henv (Nat.le_of_ble_eq_true rfl) rfl rfl hl.1 rfl (Nat.le_of_ble_eq_true rfl) d_Model_run_IIII_696 ⟨Nat.le_refl _, Nat.le_refl _⟩ (fun H locs hP hD hS => ?_)
    clear hc29
    obtain ⟨-, -, e3⟩ := re_e hR
    subst e3
    exact W.vret hx hb hr (fun t ht hW => ⟨⟨(), rfl, trivial, by rw [ht]; exact hP, va_K.moved hW.alike hK, hD⟩, hS.F ht⟩) hS.2.2 d_Model_run_IIII_699
  replace hR := if_n c28 hR
  by_cases c30 : p1 = (10 : Int32)
  · replace hR := if_p c30 hR
    refine lv_tableIn (off := 691) (tgt := 692) hx hb d_Model_run_IIII_1 (by rw [c30]; decide) (by rw [c30]; decide) (by rw [c30]; decide) (by decide) ?_
    refine lv_aload_n hx hb d_Model_run_IIII_692 rfl (lv_at hl 0 rfl) ?_
    refine lv_iload_n hx hb d_Model_run_IIII_693 rfl (lv_at hl 1 rfl) ?_
    refine lv_iload_n hx hb d_Model_run_IIII_694 rfl (lv_at hl 2 rfl) ?_
    refine lv_iload_n hx hb d_Model_run_IIII_695 rfl (lv_at hl 3 rfl) ?_
    replace hR := bi_e hR
    obtain ⟨r31, l31, T31, hc31, hR⟩ := hR
    refine gcV_v (rest := []) ⟨hx, hb, hml, hown, hT⟩ (h_Model_touch _ _ _ _ _ _ _ hc31) (cwV 3 hT (gV ml_Model_890 im_Model_touch se_Model_touch ini_Model co_Model_touch) rfl rfl rfl pd_Model_touch ⟨rm_hi, rm_lo (Nat.le_of_ble_eq_true rfl)⟩) hK hP hD hS hA hnw henv (Nat.le_of_ble_eq_true rfl) rfl rfl hl.1 rfl (Nat.le_of_ble_eq_true rfl) d_Model_run_IIII_696 ⟨Nat.le_refl _, Nat.le_refl _⟩ (fun H locs hP hD hS => ?_)
    clear hc31
    obtain ⟨-, -, e3⟩ := re_e hR
    subst e3
    exact W.vret hx hb hr (fun t ht hW => ⟨⟨(), rfl, trivial, by rw [ht]; exact hP, va_K.moved hW.alike hK, hD⟩, hS.F ht⟩) hS.2.2 d_Model_run_IIII_699
  replace hR := if_n c30 hR
  by_cases c32 : p1 = (11 : Int32)
  · replace hR := if_p c32 hR
    refine lv_tableIn (off := 691) (tgt := 692) hx hb d_Model_run_IIII_1 (by rw [c32]; decide) (by rw [c32]; decide) (by rw [c32]; decide) (by decide) ?_
    refine lv_aload_n hx hb d_Model_run_IIII_692 rfl (lv_at hl 0 rfl) ?_
    refine lv_iload_n hx hb d_Model_run_IIII_693 rfl (lv_at hl 1 rfl) ?_
    refine lv_iload_n hx hb d_Model_run_IIII_694 rfl (lv_at hl 2 rfl) ?_
    refine lv_iload_n hx hb d_Model_run_IIII_695 rfl (lv_at hl 3 rfl) ?_
    replace hR := bi_e hR
    obtain ⟨r33, l33, T33, hc33, hR⟩ := hR
    refine gcV_v (rest := []) ⟨hx, hb, hml, hown, hT⟩ (h_Model_touch _ _ _ _ _ _ _ hc33) (cwV 3 hT (gV ml_Model_890 im_Model_touch se_Model_touch ini_Model co_Model_touch) rfl rfl rfl pd_Model_touch ⟨rm_hi, rm_lo (Nat.le_of_ble_eq_true rfl)⟩) hK hP hD hS hA hnw henv (Nat.le_of_ble_eq_true rfl) rfl rfl hl.1 rfl (Nat.le_of_ble_eq_true rfl) d_Model_run_IIII_696 ⟨Nat.le_refl _, Nat.le_refl _⟩ (fun H locs hP hD hS => ?_)
    clear hc33
    obtain ⟨-, -, e3⟩ := re_e hR
    subst e3
    exact W.vret hx hb hr (fun t ht hW => ⟨⟨(), rfl, trivial, by rw [ht]; exact hP, va_K.moved hW.alike hK, hD⟩, hS.F ht⟩) hS.2.2 d_Model_run_IIII_699
  replace hR := if_n c32 hR
  by_cases c34 : p1 = (12 : Int32)
  · replace hR := if_p c34 hR
    refine lv_tableIn (off := 691) (tgt := 692) hx hb d_Model_run_IIII_1 (by rw [c34]; decide) (by rw [c34]; decide) (by rw [c34]; decide) (by decide) ?_
    refine lv_aload_n hx hb d_Model_run_IIII_692 rfl (lv_at hl 0 rfl) ?_
    refine lv_iload_n hx hb d_Model_run_IIII_693 rfl (lv_at hl 1 rfl) ?_
    refine lv_iload_n hx hb d_Model_run_IIII_694 rfl (lv_at hl 2 rfl) ?_
    refine lv_iload_n hx hb d_Model_run_IIII_695 rfl (lv_at hl 3 rfl) ?_
    replace hR := bi_e hR
    obtain ⟨r35, l35, T35, hc35, hR⟩ := hR
    refine gcV_v (rest := []) ⟨hx, hb, hml, hown, hT⟩ (h_Model_touch _ _ _ _ _ _ _ hc35) (cwV 3 hT (gV ml_Model_890 im_Model_touch se_Model_touch ini_Model co_Model_touch) rfl rfl rfl pd_Model_touch ⟨rm_hi, rm_lo (Nat.le_of_ble_eq_true rfl)⟩) hK hP hD hS hA hnw henv (Nat.le_of_ble_eq_true rfl) rfl rfl hl.1 rfl (Nat.le_of_ble_eq_true rfl) d_Model_run_IIII_696 ⟨Nat.le_refl _, Nat.le_refl _⟩ (fun H locs hP hD hS => ?_)
    clear hc35
    obtain ⟨-, -, e3⟩ := re_e hR
    subst e3
    exact W.vret hx hb hr (fun t ht hW => ⟨⟨(), rfl, trivial, by rw [ht]; exact hP, va_K.moved hW.alike hK, hD⟩, hS.F ht⟩) hS.2.2 d_Model_run_IIII_699
  replace hR := if_n c34 hR
  by_cases c36 : p1 = (13 : Int32)
  · replace hR := if_p c36 hR
    refine lv_tableIn (off := 691) (tgt := 692) hx hb d_Model_run_IIII_1 (by rw [c36]; decide) (by rw [c36]; decide) (by rw [c36]; decide) (by decide) ?_
    refine lv_aload_n hx hb d_Model_run_IIII_692 rfl (lv_at hl 0 rfl) ?_
    refine lv_iload_n hx hb d_Model_run_IIII_693 rfl (lv_at hl 1 rfl) ?_
    refine lv_iload_n hx hb d_Model_run_IIII_694 rfl (lv_at hl 2 rfl) ?_
    refine lv_iload_n hx hb d_Model_run_IIII_695 rfl (lv_at hl 3 rfl) ?_
    replace hR := bi_e hR
    obtain ⟨r37, l37, T37, hc37, hR⟩ := hR
    refine gcV_v (rest := []) ⟨hx, hb, hml, hown, hT⟩ (h_Model_touch _ _ _ _ _ _ _ hc37) (cwV 3 hT (gV ml_Model_890 im_Model_touch se_Model_touch ini_Model co_Model_touch) rfl rfl rfl pd_Model_touch ⟨rm_hi, rm_lo (Nat.le_of_ble_eq_true rfl)⟩) hK hP hD hS hA hnw henv (Nat.le_of_ble_eq_true rfl) rfl rfl hl.1 rfl (Nat.le_of_ble_eq_true rfl) d_Model_run_IIII_696 ⟨Nat.le_refl _, Nat.le_refl _⟩ (fun H locs hP hD hS => ?_)
    clear hc37
    obtain ⟨-, -, e3⟩ := re_e hR
    subst e3
    exact W.vret hx hb hr (fun t ht hW => ⟨⟨(), rfl, trivial, by rw [ht]; exact hP, va_K.moved hW.alike hK, hD⟩, hS.F ht⟩) hS.2.2 d_Model_run_IIII_699
  replace hR := if_n c36 hR
  by_cases c38 : p1 = (14 : Int32)
  · replace hR := if_p c38 hR
    refine lv_tableIn (off := 674) (tgt := 675) hx hb d_Model_run_IIII_1 (by rw [c38]; decide) (by rw [c38]; decide) (by rw [c38]; decide) (by decide) ?_
    refine lv_aload_n hx hb d_Model_run_IIII_675 rfl (lv_at hl 0 rfl) ?_
    refine lv_iload_n hx hb d_Model_run_IIII_676 rfl (lv_at hl 1 rfl) ?_
    refine lv_iload_n hx hb d_Model_run_IIII_677 rfl (lv_at hl 2 rfl) ?_
    refine lv_iload_n hx hb d_Model_run_IIII_678 rfl (lv_at hl 3 rfl) ?_
    refine lv_iload hx hb d_Model_run_IIII_679 (lv_at hl 4 rfl) ?_
    replace hR := bi_e hR
    obtain ⟨r39, l39, T39, hc39, hR⟩ := hR
    refine gcV_v (rest := []) ⟨hx, hb, hml, hown, hT⟩ (h_Model_makeBy _ _ _ _ _ _ _ _ hc39) (cwV 4 hT (gV ml_Model_884 im_Model_makeBy se_Model_makeBy ini_Model co_Model_makeBy) rfl rfl rfl pd_Model_makeBy ⟨rm_hi, rm_lo (Nat.le_of_ble_eq_true rfl)⟩) hK hP hD hS hA hnw henv (Nat.le_of_ble_eq_true rfl) rfl rfl hl.1 rfl (Nat.le_of_ble_eq_true rfl) d_Model_run_IIII_681 ⟨Nat.le_refl _, Nat.le_refl _⟩ (fun H locs hP hD hS => ?_)
    clear hc39
    obtain ⟨-, -, e3⟩ := re_e hR
    subst e3
    exact W.vret hx hb hr (fun t ht hW => ⟨⟨(), rfl, trivial, by rw [ht]; exact hP, va_K.moved hW.alike hK, hD⟩, hS.F ht⟩) hS.2.2 d_Model_run_IIII_684
  replace hR := if_n c38 hR
  by_cases c40 : p1 = (15 : Int32)
  · replace hR := if_p c40 hR
    refine lv_tableIn (off := 674) (tgt := 675) hx hb d_Model_run_IIII_1 (by rw [c40]; decide) (by rw [c40]; decide) (by rw [c40]; decide) (by decide) ?_
    refine lv_aload_n hx hb d_Model_run_IIII_675 rfl (lv_at hl 0 rfl) ?_
    refine lv_iload_n hx hb d_Model_run_IIII_676 rfl (lv_at hl 1 rfl) ?_
    refine lv_iload_n hx hb d_Model_run_IIII_677 rfl (lv_at hl 2 rfl) ?_
    refine lv_iload_n hx hb d_Model_run_IIII_678 rfl (lv_at hl 3 rfl) ?_
    refine lv_iload hx hb d_Model_run_IIII_679 (lv_at hl 4 rfl) ?_
    replace hR := bi_e hR
    obtain ⟨r41, l41, T41, hc41, hR⟩ := hR
    refine gcV_v (rest := []) ⟨hx, hb, hml, hown, hT⟩ (h_Model_makeBy _ _ _ _ _ _ _ _ hc41) (cwV 4 hT (gV ml_Model_884 im_Model_makeBy se_Model_makeBy ini_Model co_Model_makeBy) rfl rfl rfl pd_Model_makeBy ⟨rm_hi, rm_lo (Nat.le_of_ble_eq_true rfl)⟩) hK hP hD hS hA hnw henv (Nat.le_of_ble_eq_true rfl) rfl rfl hl.1 rfl (Nat.le_of_ble_eq_true rfl) d_Model_run_IIII_681 ⟨Nat.le_refl _, Nat.le_refl _⟩ (fun H locs hP hD hS => ?_)
    clear hc41
    obtain ⟨-, -, e3⟩ := re_e hR
    subst e3
    exact W.vret hx hb hr (fun t ht hW => ⟨⟨(), rfl, trivial, by rw [ht]; exact hP, va_K.moved hW.alike hK, hD⟩, hS.F ht⟩) hS.2.2 d_Model_run_IIII_684
  replace hR := if_n c40 hR
  by_cases c42 : p1 = (16 : Int32)
  · replace hR := if_p c42 hR
    refine lv_tableIn (off := 674) (tgt := 675) hx hb d_Model_run_IIII_1 (by rw [c42]; decide) (by rw [c42]; decide) (by rw [c42]; decide) (by decide) ?_
    refine lv_aload_n hx hb d_Model_run_IIII_675 rfl (lv_at hl 0 rfl) ?_
    refine lv_iload_n hx hb d_Model_run_IIII_676 rfl (lv_at hl 1 rfl) ?_
    refine lv_iload_n hx hb d_Model_run_IIII_677 rfl (lv_at hl 2 rfl) ?_
    refine lv_iload_n hx hb d_Model_run_IIII_678 rfl (lv_at hl 3 rfl) ?_
    refine lv_iload hx hb d_Model_run_IIII_679 (lv_at hl 4 rfl) ?_
    replace hR := bi_e hR
    obtain ⟨r43, l43, T43, hc43, hR⟩ := hR
    refine gcV_v (rest := []) ⟨hx, hb, hml, hown, hT⟩ (h_Model_makeBy _ _ _ _ _ _ _ _ hc43) (cwV 4 hT (gV ml_Model_884 im_Model_makeBy se_Model_makeBy ini_Model co_Model_makeBy) rfl rfl rfl pd_Model_makeBy ⟨rm_hi, rm_lo (Nat.le_of_ble_eq_true rfl)⟩) hK hP hD hS hA hnw henv (Nat.le_of_ble_eq_true rfl) rfl rfl hl.1 rfl (Nat.le_of_ble_eq_true rfl) d_Model_run_IIII_681 ⟨Nat.le_refl _, Nat.le_refl _⟩ (fun H locs hP hD hS => ?_)
    clear hc43
    obtain ⟨-, -, e3⟩ := re_e hR
    subst e3
    exact W.vret hx hb hr (fun t ht hW => ⟨⟨(), rfl, trivial, by rw [ht]; exact hP, va_K.moved hW.alike hK, hD⟩, hS.F ht⟩) hS.2.2 d_Model_run_IIII_684
  replace hR := if_n c42 hR
  by_cases c44 : p1 = (17 : Int32)
  · replace hR := if_p c44 hR
    refine lv_tableIn (off := 674) (tgt := 675) hx hb d_Model_run_IIII_1 (by rw [c44]; decide) (by rw [c44]; decide) (by rw [c44]; decide) (by decide) ?_
    refine lv_aload_n hx hb d_Model_run_IIII_675 rfl (lv_at hl 0 rfl) ?_
    refine lv_iload_n hx hb d_Model_run_IIII_676 rfl (lv_at hl 1 rfl) ?_
    refine lv_iload_n hx hb d_Model_run_IIII_677 rfl (lv_at hl 2 rfl) ?_
    refine lv_iload_n hx hb d_Model_run_IIII_678 rfl (lv_at hl 3 rfl) ?_
    refine lv_iload hx hb d_Model_run_IIII_679 (lv_at hl 4 rfl) ?_
    replace hR := bi_e hR
    obtain ⟨r45, l45, T45, hc45, hR⟩ := hR
    refine gcV_v (rest := []) ⟨hx, hb, hml, hown, hT⟩ (h_Model_makeBy _ _ _ _ _ _ _ _ hc45) (cwV 4 hT (gV ml_Model_884 im_Model_makeBy se_Model_makeBy ini_Model co_Model_makeBy) rfl rfl rfl pd_Model_makeBy ⟨rm_hi, rm_lo (Nat.le_of_ble_eq_true rfl)⟩) hK hP hD hS hA hnw henv (Nat.le_of_ble_eq_true rfl) rfl rfl hl.1 rfl (Nat.le_of_ble_eq_true rfl) d_Model_run_IIII_681 ⟨Nat.le_refl _, Nat.le_refl _⟩ (fun H locs hP hD hS => ?_)
    clear hc45
    obtain ⟨-, -, e3⟩ := re_e hR
    subst e3
    exact W.vret hx hb hr (fun t ht hW => ⟨⟨(), rfl, trivial, by rw [ht]; exact hP, va_K.moved hW.alike hK, hD⟩, hS.F ht⟩) hS.2.2 d_Model_run_IIII_684
  replace hR := if_n c44 hR
  by_cases c46 : p1 = (18 : Int32)
  · replace hR := if_p c46 hR
    refine lv_tableIn (off := 347) (tgt := 348) hx hb d_Model_run_IIII_1 (by rw [c46]; decide) (by rw [c46]; decide) (by rw [c46]; decide) (by decide) ?_
    refine lv_aload_n hx hb d_Model_run_IIII_348 rfl (lv_at hl 0 rfl) ?_
    refine lv_iload_n hx hb d_Model_run_IIII_349 rfl (lv_at hl 2 rfl) ?_
    refine lv_iload_n hx hb d_Model_run_IIII_350 rfl (lv_at hl 3 rfl) ?_
    replace hR := bi_e hR
    obtain ⟨r47, l47, T47, hc47, hR⟩ := hR
    refine gcV_v (rest := []) ⟨hx, hb, hml, hown, hT⟩ (h_Model_invoke _ _ _ _ _ _ hc47) (cwV 2 hT (gV ml_Model_875 im_Model_invoke se_Model_invoke ini_Model co_Model_invoke) rfl rfl rfl pd_Model_invoke ⟨rm_hi, rm_lo (Nat.le_of_ble_eq_true rfl)⟩) hK hP hD hS hA hnw henv (Nat.le_of_ble_eq_true rfl) rfl rfl hl.1 rfl (Nat.le_of_ble_eq_true rfl) d_Model_run_IIII_351 ⟨Nat.le_refl _, Nat.le_refl _⟩ (fun H locs hP hD hS => ?_)
    clear hc47
    obtain ⟨-, -, e3⟩ := re_e hR
    subst e3
    exact W.vret hx hb hr (fun t ht hW => ⟨⟨(), rfl, trivial, by rw [ht]; exact hP, va_K.moved hW.alike hK, hD⟩, hS.F ht⟩) hS.2.2 d_Model_run_IIII_354
  replace hR := if_n c46 hR
  by_cases c48 : p1 = (19 : Int32)
  · replace hR := if_p c48 hR
    refine lv_tableIn (off := 684) (tgt := 685) hx hb d_Model_run_IIII_1 (by rw [c48]; decide) (by rw [c48]; decide) (by rw [c48]; decide) (by decide) ?_
    refine lv_aload_n hx hb d_Model_run_IIII_685 rfl (lv_at hl 0 rfl) ?_
    refine lv_iload_n hx hb d_Model_run_IIII_686 rfl (lv_at hl 1 rfl) ?_
    refine lv_iload_n hx hb d_Model_run_IIII_687 rfl (lv_at hl 2 rfl) ?_
    replace hR := bi_e hR
    obtain ⟨r49, l49, T49, hc49, hR⟩ := hR
    refine gcV_v (rest := []) ⟨hx, hb, hml, hown, hT⟩ (h_Model_reckon _ _ _ _ _ _ hc49) (cwV 2 hT (gV ml_Model_887 im_Model_reckon se_Model_reckon ini_Model co_Model_reckon) rfl rfl rfl pd_Model_reckon ⟨rm_hi, rm_lo (Nat.le_of_ble_eq_true rfl)⟩) hK hP hD hS hA hnw henv (Nat.le_of_ble_eq_true rfl) rfl rfl hl.1 rfl (Nat.le_of_ble_eq_true rfl) d_Model_run_IIII_688 ⟨Nat.le_refl _, Nat.le_refl _⟩ (fun H locs hP hD hS => ?_)
    clear hc49
    obtain ⟨-, -, e3⟩ := re_e hR
    subst e3
    exact W.vret hx hb hr (fun t ht hW => ⟨⟨(), rfl, trivial, by rw [ht]; exact hP, va_K.moved hW.alike hK, hD⟩, hS.F ht⟩) hS.2.2 d_Model_run_IIII_691
  replace hR := if_n c48 hR
  by_cases c50 : p1 = (20 : Int32)
  · replace hR := if_p c50 hR
    refine lv_tableIn (off := 684) (tgt := 685) hx hb d_Model_run_IIII_1 (by rw [c50]; decide) (by rw [c50]; decide) (by rw [c50]; decide) (by decide) ?_
    refine lv_aload_n hx hb d_Model_run_IIII_685 rfl (lv_at hl 0 rfl) ?_
    refine lv_iload_n hx hb d_Model_run_IIII_686 rfl (lv_at hl 1 rfl) ?_
    refine lv_iload_n hx hb d_Model_run_IIII_687 rfl (lv_at hl 2 rfl) ?_
    replace hR := bi_e hR
    obtain ⟨r51, l51, T51, hc51, hR⟩ := hR
    refine gcV_v (rest := []) ⟨hx, hb, hml, hown, hT⟩ (h_Model_reckon _ _ _ _ _ _ hc51) (cwV 2 hT (gV ml_Model_887 im_Model_reckon se_Model_reckon ini_Model co_Model_reckon) rfl rfl rfl pd_Model_reckon ⟨rm_hi, rm_lo (Nat.le_of_ble_eq_true rfl)⟩) hK hP hD hS hA hnw henv (Nat.le_of_ble_eq_true rfl) rfl rfl hl.1 rfl (Nat.le_of_ble_eq_true rfl) d_Model_run_IIII_688 ⟨Nat.le_refl _, Nat.le_refl _⟩ (fun H locs hP hD hS => ?_)
    clear hc51
    obtain ⟨-, -, e3⟩ := re_e hR
    subst e3
    exact W.vret hx hb hr (fun t ht hW => ⟨⟨(), rfl, trivial, by rw [ht]; exact hP, va_K.moved hW.alike hK, hD⟩, hS.F ht⟩) hS.2.2 d_Model_run_IIII_691
  replace hR := if_n c50 hR
  by_cases c52 : p1 = (21 : Int32)
  · replace hR := if_p c52 hR
    refine lv_tableIn (off := 684) (tgt := 685) hx hb d_Model_run_IIII_1 (by rw [c52]; decide) (by rw [c52]; decide) (by rw [c52]; decide) (by decide) ?_
    refine lv_aload_n hx hb d_Model_run_IIII_685 rfl (lv_at hl 0 rfl) ?_
    refine lv_iload_n hx hb d_Model_run_IIII_686 rfl (lv_at hl 1 rfl) ?_
    refine lv_iload_n hx hb d_Model_run_IIII_687 rfl (lv_at hl 2 rfl) ?_
    replace hR := bi_e hR
    obtain ⟨r53, l53, T53, hc53, hR⟩ := hR
    refine gcV_v (rest := []) ⟨hx, hb, hml, hown, hT⟩ (h_Model_reckon _ _ _ _ _ _ hc53) (cwV 2 hT (gV ml_Model_887 im_Model_reckon se_Model_reckon ini_Model co_Model_reckon) rfl rfl rfl pd_Model_reckon ⟨rm_hi, rm_lo (Nat.le_of_ble_eq_true rfl)⟩) hK hP hD hS hA hnw henv (Nat.le_of_ble_eq_true rfl) rfl rfl hl.1 rfl (Nat.le_of_ble_eq_true rfl) d_Model_run_IIII_688 ⟨Nat.le_refl _, Nat.le_refl _⟩ (fun H locs hP hD hS => ?_)
    clear hc53
    obtain ⟨-, -, e3⟩ := re_e hR
    subst e3
    exact W.vret hx hb hr (fun t ht hW => ⟨⟨(), rfl, trivial, by rw [ht]; exact hP, va_K.moved hW.alike hK, hD⟩, hS.F ht⟩) hS.2.2 d_Model_run_IIII_691
  replace hR := if_n c52 hR
  by_cases c54 : p1 = (22 : Int32)
  · replace hR := if_p c54 hR
    refine lv_tableIn (off := 265) (tgt := 266) hx hb d_Model_run_IIII_1 (by rw [c54]; decide) (by rw [c54]; decide) (by rw [c54]; decide) (by decide) ?_
    refine lv_aload_n hx hb d_Model_run_IIII_266 rfl (lv_at hl 0 rfl) ?_
    refine lv_dup hx hb d_Model_run_IIII_267 rfl ?_
    refine rd_Model_799 hx hb hT hown hK hP d_Model_run_IIII_268 ?_
    refine lv_iconst (v := 1) hx hb d_Model_run_IIII_271 (by decide) ?_
    refine lv_isub hx hb d_Model_run_IIII_272 ?_
    refine wr_Model_799 hx hb hT hown hK hP hD hS d_Model_run_IIII_273 (fun T55 eT H locs hP hD hS => ?_)
    replace hR := stK_e eT hR
    clear eT
    refine lv_aload_n hx hb d_Model_run_IIII_276 rfl (lv_at hl 0 rfl) ?_
    refine lv_iload_n hx hb d_Model_run_IIII_277 rfl (lv_at hl 2 rfl) ?_
    replace hR := bi_e hR
    obtain ⟨r56, l56, T56, hc56, hR⟩ := hR
    refine gcV_i (rest := []) ⟨hx, hb, hml, hown, hT⟩ (h_Model_var _ _ _ _ _ hc56) (cwV 1 hT (gV ml_Model_873 im_Model_var se_Model_var ini_Model co_Model_var) rfl rfl rfl pd_Model_var ⟨rm_hi, rm_lo (Nat.le_of_ble_eq_true rfl)⟩) hK hP hD hS hA hnw henv (Nat.le_of_ble_eq_true rfl) rfl rfl hl.1 rfl (Nat.le_of_ble_eq_true rfl) d_Model_run_IIII_278 ⟨Nat.le_refl _, Nat.le_refl _⟩ (fun H locs hP hD hS => ?_)
    clear hc56
    refine lv_istore (lv' := [(5, .int r56), (0, .ref (ad 0)), (1, .int p1), (2, .int p2), (3, .int p3), (4, .int p4)]) hx hb d_Model_run_IIII_281 hl (by decide) rfl (fun ls hl => ?_)
    refine lv_aload_n hx hb d_Model_run_IIII_283 rfl (lv_at hl 1 rfl) ?_
    refine rd_Model_228 hx hb hT hown hK hP d_Model_run_IIII_284 ?_
    refine lv_iload hx hb d_Model_run_IIII_287 (lv_at hl 0 rfl) ?_
    refine lv_aload_n hx hb d_Model_run_IIII_289 rfl (lv_at hl 1 rfl) ?_
    refine rd_Model_207 hx hb hT hown hK hP d_Model_run_IIII_290 ?_
    refine lv_aload_n hx hb d_Model_run_IIII_293 rfl (lv_at hl 1 rfl) ?_
    refine rd_Model_799 hx hb hT hown hK hP d_Model_run_IIII_294 ?_
    replace hR := gd_e hR
    obtain ⟨b57, hR⟩ := hR
    refine laM_64 hx hb hK hP b57 d_Model_run_IIII_297 ?_
    replace hR := gd_e hR
    obtain ⟨b58, hR⟩ := hR
    refine saM_71 hx hb hK hP hD hS b58 d_Model_run_IIII_298 (fun T58 eT H locs hP hD hS => ?_)
    replace hR := stK_e eT hR
    clear eT
    refine lv_aload_n hx hb d_Model_run_IIII_299 rfl (lv_at hl 1 rfl) ?_
    refine rd_Model_231 hx hb hT hown hK hP d_Model_run_IIII_300 ?_
    refine lv_iload hx hb d_Model_run_IIII_303 (lv_at hl 0 rfl) ?_
    refine lv_aload_n hx hb d_Model_run_IIII_305 rfl (lv_at hl 1 rfl) ?_
    refine rd_Model_210 hx hb hT hown hK hP d_Model_run_IIII_306 ?_
    refine lv_aload_n hx hb d_Model_run_IIII_309 rfl (lv_at hl 1 rfl) ?_
    refine rd_Model_799 hx hb hT hown hK hP d_Model_run_IIII_310 ?_
    replace hR := gd_e hR
    obtain ⟨b59, hR⟩ := hR
    refine laM_65 hx hb hK hP b59 d_Model_run_IIII_313 ?_
    replace hR := gd_e hR
    obtain ⟨b60, hR⟩ := hR
    refine saM_72 hx hb hK hP hD hS b60 d_Model_run_IIII_314 (fun T60 eT H locs hP hD hS => ?_)
    replace hR := stK_e eT hR
    clear eT
    refine lv_aload_n hx hb d_Model_run_IIII_315 rfl (lv_at hl 1 rfl) ?_
    refine rd_Model_234 hx hb hT hown hK hP d_Model_run_IIII_316 ?_
    refine lv_iload hx hb d_Model_run_IIII_319 (lv_at hl 0 rfl) ?_
    refine lv_aload_n hx hb d_Model_run_IIII_321 rfl (lv_at hl 1 rfl) ?_
    refine rd_Model_213 hx hb hT hown hK hP d_Model_run_IIII_322 ?_
    refine lv_aload_n hx hb d_Model_run_IIII_325 rfl (lv_at hl 1 rfl) ?_
    refine rd_Model_799 hx hb hT hown hK hP d_Model_run_IIII_326 ?_
    replace hR := gd_e hR
    obtain ⟨b61, hR⟩ := hR
    refine laM_66 hx hb hK hP b61 d_Model_run_IIII_329 ?_
    replace hR := gd_e hR
    obtain ⟨b62, hR⟩ := hR
    refine saM_73 hx hb hK hP hD hS b62 d_Model_run_IIII_330 (fun T62 eT H locs hP hD hS => ?_)
    replace hR := stK_e eT hR
    clear eT
    refine lv_aload_n hx hb d_Model_run_IIII_331 rfl (lv_at hl 1 rfl) ?_
    refine rd_Model_237 hx hb hT hown hK hP d_Model_run_IIII_332 ?_
    refine lv_iload hx hb d_Model_run_IIII_335 (lv_at hl 0 rfl) ?_
    refine lv_aload_n hx hb d_Model_run_IIII_337 rfl (lv_at hl 1 rfl) ?_
    refine rd_Model_216 hx hb hT hown hK hP d_Model_run_IIII_338 ?_
    refine lv_aload_n hx hb d_Model_run_IIII_341 rfl (lv_at hl 1 rfl) ?_
    refine rd_Model_799 hx hb hT hown hK hP d_Model_run_IIII_342 ?_
    replace hR := gd_e hR
    obtain ⟨b63, hR⟩ := hR
    refine laM_67 hx hb hK hP b63 d_Model_run_IIII_345 ?_
    replace hR := gd_e hR
    obtain ⟨b64, hR⟩ := hR
    refine saM_74 hx hb hK hP hD hS b64 d_Model_run_IIII_346 (fun T64 eT H locs hP hD hS => ?_)
    replace hR := stK_e eT hR
    clear eT
    obtain ⟨-, -, e3⟩ := re_e hR
    subst e3
    exact W.vret hx hb hr (fun t ht hW => ⟨⟨(), rfl, trivial, by rw [ht]; exact hP, va_K.moved hW.alike hK, hD⟩, hS.F ht⟩) hS.2.2 d_Model_run_IIII_347
  replace hR := if_n c54 hR
  by_cases c65 : p1 = (23 : Int32)
  · replace hR := if_p c65 hR
    refine lv_tableIn (off := 691) (tgt := 692) hx hb d_Model_run_IIII_1 (by rw [c65]; decide) (by rw [c65]; decide) (by rw [c65]; decide) (by decide) ?_
    refine lv_aload_n hx hb d_Model_run_IIII_692 rfl (lv_at hl 0 rfl) ?_
    refine lv_iload_n hx hb d_Model_run_IIII_693 rfl (lv_at hl 1 rfl) ?_
    refine lv_iload_n hx hb d_Model_run_IIII_694 rfl (lv_at hl 2 rfl) ?_
    refine lv_iload_n hx hb d_Model_run_IIII_695 rfl (lv_at hl 3 rfl) ?_
    replace hR := bi_e hR
    obtain ⟨r66, l66, T66, hc66, hR⟩ := hR
    refine gcV_v (rest := []) ⟨hx, hb, hml, hown, hT⟩ (h_Model_touch _ _ _ _ _ _ _ hc66) (cwV 3 hT (gV ml_Model_890 im_Model_touch se_Model_touch ini_Model co_Model_touch) rfl rfl rfl pd_Model_touch ⟨rm_hi, rm_lo (Nat.le_of_ble_eq_true rfl)⟩) hK hP hD hS hA hnw henv (Nat.le_of_ble_eq_true rfl) rfl rfl hl.1 rfl (Nat.le_of_ble_eq_true rfl) d_Model_run_IIII_696 ⟨Nat.le_refl _, Nat.le_refl _⟩ (fun H locs hP hD hS => ?_)
    clear hc66
    obtain ⟨-, -, e3⟩ := re_e hR
    subst e3
    exact W.vret hx hb hr (fun t ht hW => ⟨⟨(), rfl, trivial, by rw [ht]; exact hP, va_K.moved hW.alike hK, hD⟩, hS.F ht⟩) hS.2.2 d_Model_run_IIII_699
  replace hR := if_n c65 hR
  by_cases c67 : p1 = (24 : Int32)
  · replace hR := if_p c67 hR
    refine lv_tableIn (off := 691) (tgt := 692) hx hb d_Model_run_IIII_1 (by rw [c67]; decide) (by rw [c67]; decide) (by rw [c67]; decide) (by decide) ?_
    refine lv_aload_n hx hb d_Model_run_IIII_692 rfl (lv_at hl 0 rfl) ?_
    refine lv_iload_n hx hb d_Model_run_IIII_693 rfl (lv_at hl 1 rfl) ?_
    refine lv_iload_n hx hb d_Model_run_IIII_694 rfl (lv_at hl 2 rfl) ?_
    refine lv_iload_n hx hb d_Model_run_IIII_695 rfl (lv_at hl 3 rfl) ?_
    replace hR := bi_e hR
    obtain ⟨r68, l68, T68, hc68, hR⟩ := hR
    refine gcV_v (rest := []) ⟨hx, hb, hml, hown, hT⟩ (h_Model_touch _ _ _ _ _ _ _ hc68) (cwV 3 hT (gV ml_Model_890 im_Model_touch se_Model_touch ini_Model co_Model_touch) rfl rfl rfl pd_Model_touch ⟨rm_hi, rm_lo (Nat.le_of_ble_eq_true rfl)⟩) hK hP hD hS hA hnw henv (Nat.le_of_ble_eq_true rfl) rfl rfl hl.1 rfl (Nat.le_of_ble_eq_true rfl) d_Model_run_IIII_696 ⟨Nat.le_refl _, Nat.le_refl _⟩ (fun H locs hP hD hS => ?_)
    clear hc68
    obtain ⟨-, -, e3⟩ := re_e hR
    subst e3
    exact W.vret hx hb hr (fun t ht hW => ⟨⟨(), rfl, trivial, by rw [ht]; exact hP, va_K.moved hW.alike hK, hD⟩, hS.F ht⟩) hS.2.2 d_Model_run_IIII_699
  replace hR := if_n c67 hR
  by_cases c69 : p1 = (25 : Int32)
  · replace hR := if_p c69 hR
    refine lv_tableIn (off := 691) (tgt := 692) hx hb d_Model_run_IIII_1 (by rw [c69]; decide) (by rw [c69]; decide) (by rw [c69]; decide) (by decide) ?_
    refine lv_aload_n hx hb d_Model_run_IIII_692 rfl (lv_at hl 0 rfl) ?_
    refine lv_iload_n hx hb d_Model_run_IIII_693 rfl (lv_at hl 1 rfl) ?_
    refine lv_iload_n hx hb d_Model_run_IIII_694 rfl (lv_at hl 2 rfl) ?_
    refine lv_iload_n hx hb d_Model_run_IIII_695 rfl (lv_at hl 3 rfl) ?_
    replace hR := bi_e hR
    obtain ⟨r70, l70, T70, hc70, hR⟩ := hR
    refine gcV_v (rest := []) ⟨hx, hb, hml, hown, hT⟩ (h_Model_touch _ _ _ _ _ _ _ hc70) (cwV 3 hT (gV ml_Model_890 im_Model_touch se_Model_touch ini_Model co_Model_touch) rfl rfl rfl pd_Model_touch ⟨rm_hi, rm_lo (Nat.le_of_ble_eq_true rfl)⟩) hK hP hD hS hA hnw henv (Nat.le_of_ble_eq_true rfl) rfl rfl hl.1 rfl (Nat.le_of_ble_eq_true rfl) d_Model_run_IIII_696 ⟨Nat.le_refl _, Nat.le_refl _⟩ (fun H locs hP hD hS => ?_)
    clear hc70
    obtain ⟨-, -, e3⟩ := re_e hR
    subst e3
    exact W.vret hx hb hr (fun t ht hW => ⟨⟨(), rfl, trivial, by rw [ht]; exact hP, va_K.moved hW.alike hK, hD⟩, hS.F ht⟩) hS.2.2 d_Model_run_IIII_699
  replace hR := if_n c69 hR
  by_cases c71 : p1 = (26 : Int32)
  · replace hR := if_p c71 hR
    refine lv_tableIn (off := 365) (tgt := 366) hx hb d_Model_run_IIII_1 (by rw [c71]; decide) (by rw [c71]; decide) (by rw [c71]; decide) (by decide) ?_
    refine lv_aload_n hx hb d_Model_run_IIII_366 rfl (lv_at hl 0 rfl) ?_
    refine lv_dup hx hb d_Model_run_IIII_367 rfl ?_
    refine rd_Model_799 hx hb hT hown hK hP d_Model_run_IIII_368 ?_
    refine lv_iconst (v := 1) hx hb d_Model_run_IIII_371 (by decide) ?_
    refine lv_isub hx hb d_Model_run_IIII_372 ?_
    refine wr_Model_799 hx hb hT hown hK hP hD hS d_Model_run_IIII_373 (fun T72 eT H locs hP hD hS => ?_)
    replace hR := stK_e eT hR
    clear eT
    refine lv_iload_n hx hb d_Model_run_IIII_376 rfl (lv_at hl 3 rfl) ?_
    refine lv_if_ne (tgt := 395) hx hb d_Model_run_IIII_377 (by decide) (fun c73 => ?_) (fun c73 => ?_)
    · replace hR := if_n c73 hR
      refine lv_aload_n hx hb d_Model_run_IIII_395 rfl (lv_at hl 0 rfl) ?_
      refine rd_Model_210 hx hb hT hown hK hP d_Model_run_IIII_396 ?_
      refine lv_aload_n hx hb d_Model_run_IIII_399 rfl (lv_at hl 0 rfl) ?_
      refine rd_Model_799 hx hb hT hown hK hP d_Model_run_IIII_400 ?_
      replace hR := gd_e hR
      obtain ⟨b74, hR⟩ := hR
      refine laM_65 hx hb hK hP b74 d_Model_run_IIII_403 ?_
      refine lv_iconst (v := (-1)) hx hb d_Model_run_IIII_404 (by decide) ?_
      refine lv_icmp_ne (tgt := 413) hx hb d_Model_run_IIII_405 (by decide) (fun c75 => ?_) (fun c75 => ?_)
      · replace hR := if_n c75 hR
        obtain ⟨-, -, e3⟩ := re_e hR
        subst e3
        exact W.vret hx hb hr (fun t ht hW => ⟨⟨(), rfl, trivial, by rw [ht]; exact hP, va_K.moved hW.alike hK, hD⟩, hS.F ht⟩) hS.2.2 d_Model_run_IIII_413
      · replace hR := if_p c75 hR
        refine lv_aload_n hx hb d_Model_run_IIII_408 rfl (lv_at hl 0 rfl) ?_
        refine lv_iload_n hx hb d_Model_run_IIII_409 rfl (lv_at hl 2 rfl) ?_
        refine wr_Model_863 hx hb hT hown hK hP hD hS d_Model_run_IIII_410 (fun T76 eT H locs hP hD hS => ?_)
        replace hR := stK_e eT hR
        clear eT
        obtain ⟨-, -, e3⟩ := re_e hR
        subst e3
        exact W.vret hx hb hr (fun t ht hW => ⟨⟨(), rfl, trivial, by rw [ht]; exact hP, va_K.moved hW.alike hK, hD⟩, hS.F ht⟩) hS.2.2 d_Model_run_IIII_413
    · replace hR := if_p c73 hR
      refine lv_aload_n hx hb d_Model_run_IIII_380 rfl (lv_at hl 0 rfl) ?_
      refine rd_Model_207 hx hb hT hown hK hP d_Model_run_IIII_381 ?_
      refine lv_aload_n hx hb d_Model_run_IIII_384 rfl (lv_at hl 0 rfl) ?_
      refine rd_Model_799 hx hb hT hown hK hP d_Model_run_IIII_385 ?_
      replace hR := gd_e hR
      obtain ⟨b77, hR⟩ := hR
      refine laM_64 hx hb hK hP b77 d_Model_run_IIII_388 ?_
      refine lv_if_ne (tgt := 413) hx hb d_Model_run_IIII_389 (by decide) (fun c78 => ?_) (fun c78 => ?_)
      · replace hR := if_n c78 hR
        obtain ⟨-, -, e3⟩ := re_e hR
        subst e3
        exact W.vret hx hb hr (fun t ht hW => ⟨⟨(), rfl, trivial, by rw [ht]; exact hP, va_K.moved hW.alike hK, hD⟩, hS.F ht⟩) hS.2.2 d_Model_run_IIII_413
      · replace hR := if_p c78 hR
        refine lv_goto (tgt := 408) hx hb d_Model_run_IIII_392 (by decide) ?_
        refine lv_aload_n hx hb d_Model_run_IIII_408 rfl (lv_at hl 0 rfl) ?_
        refine lv_iload_n hx hb d_Model_run_IIII_409 rfl (lv_at hl 2 rfl) ?_
        refine wr_Model_863 hx hb hT hown hK hP hD hS d_Model_run_IIII_410 (fun T79 eT H locs hP hD hS => ?_)
        replace hR := stK_e eT hR
        clear eT
        obtain ⟨-, -, e3⟩ := re_e hR
        subst e3
        exact W.vret hx hb hr (fun t ht hW => ⟨⟨(), rfl, trivial, by rw [ht]; exact hP, va_K.moved hW.alike hK, hD⟩, hS.F ht⟩) hS.2.2 d_Model_run_IIII_413
  replace hR := if_n c71 hR
  by_cases c80 : p1 = (27 : Int32)
  · replace hR := if_p c80 hR
    refine lv_tableIn (off := 359) (tgt := 360) hx hb d_Model_run_IIII_1 (by rw [c80]; decide) (by rw [c80]; decide) (by rw [c80]; decide) (by decide) ?_
    refine lv_aload_n hx hb d_Model_run_IIII_360 rfl (lv_at hl 0 rfl) ?_
    refine lv_iload_n hx hb d_Model_run_IIII_361 rfl (lv_at hl 2 rfl) ?_
    refine wr_Model_863 hx hb hT hown hK hP hD hS d_Model_run_IIII_362 (fun T81 eT H locs hP hD hS => ?_)
    replace hR := stK_e eT hR
    clear eT
    obtain ⟨-, -, e3⟩ := re_e hR
    subst e3
    exact W.vret hx hb hr (fun t ht hW => ⟨⟨(), rfl, trivial, by rw [ht]; exact hP, va_K.moved hW.alike hK, hD⟩, hS.F ht⟩) hS.2.2 d_Model_run_IIII_365
  replace hR := if_n c80 hR
  by_cases c82 : p1 = (28 : Int32)
  · replace hR := if_p c82 hR
    refine lv_tableIn (off := 354) (tgt := 355) hx hb d_Model_run_IIII_1 (by rw [c82]; decide) (by rw [c82]; decide) (by rw [c82]; decide) (by decide) ?_
    refine lv_aload_n hx hb d_Model_run_IIII_355 rfl (lv_at hl 0 rfl) ?_
    replace hR := bi_e hR
    obtain ⟨r83, l83, T83, hc83, hR⟩ := hR
    refine gcV_v (rest := []) ⟨hx, hb, hml, hown, hT⟩ (h_Model_back _ _ _ _ hc83) (cwV 0 hT (gV ml_Model_878 im_Model_back se_Model_back ini_Model co_Model_back) rfl rfl rfl pd_Model_back ⟨rm_hi, rm_lo (Nat.le_of_ble_eq_true rfl)⟩) hK hP hD hS hA hnw henv (Nat.le_of_ble_eq_true rfl) rfl rfl hl.1 rfl (Nat.le_of_ble_eq_true rfl) d_Model_run_IIII_356 ⟨Nat.le_refl _, Nat.le_refl _⟩ (fun H locs hP hD hS => ?_)
    clear hc83
    obtain ⟨-, -, e3⟩ := re_e hR
    subst e3
    exact W.vret hx hb hr (fun t ht hW => ⟨⟨(), rfl, trivial, by rw [ht]; exact hP, va_K.moved hW.alike hK, hD⟩, hS.F ht⟩) hS.2.2 d_Model_run_IIII_359
  replace hR := if_n c82 hR
  by_cases c84 : p1 = (29 : Int32)
  · replace hR := if_p c84 hR
    refine lv_tableIn (off := 413) (tgt := 414) hx hb d_Model_run_IIII_1 (by rw [c84]; decide) (by rw [c84]; decide) (by rw [c84]; decide) (by decide) ?_
    refine lv_aload_n hx hb d_Model_run_IIII_414 rfl (lv_at hl 0 rfl) ?_
    refine lv_dup hx hb d_Model_run_IIII_415 rfl ?_
    refine rd_Model_799 hx hb hT hown hK hP d_Model_run_IIII_416 ?_
    refine lv_iconst (v := 1) hx hb d_Model_run_IIII_419 (by decide) ?_
    refine lv_isub hx hb d_Model_run_IIII_420 ?_
    refine wr_Model_799 hx hb hT hown hK hP hD hS d_Model_run_IIII_421 (fun T85 eT H locs hP hD hS => ?_)
    replace hR := stK_e eT hR
    clear eT
    refine lv_aload_n hx hb d_Model_run_IIII_424 rfl (lv_at hl 0 rfl) ?_
    refine rd_Model_811 hx hb hT hown hK hP d_Model_run_IIII_425 ?_
    refine lv_sipush (v := 300) hx hb d_Model_run_IIII_428 (by decide) ?_
    refine lv_icmp_ge (tgt := 452) hx hb d_Model_run_IIII_431 (by decide) (fun c86 => ?_) (fun c86 => ?_)
    · replace hR := if_p c86 hR
      refine lv_aload_n hx hb d_Model_run_IIII_452 rfl (lv_at hl 0 rfl) ?_
      refine lv_dup hx hb d_Model_run_IIII_453 rfl ?_
      refine rd_Model_811 hx hb hT hown hK hP d_Model_run_IIII_454 ?_
      refine lv_iconst (v := 1) hx hb d_Model_run_IIII_457 (by decide) ?_
      refine lv_iadd hx hb d_Model_run_IIII_458 ?_
      refine wr_Model_811 hx hb hT hown hK hP hD hS d_Model_run_IIII_459 (fun T87 eT H locs hP hD hS => ?_)
      replace hR := stK_e eT hR
      clear eT
      obtain ⟨-, -, e3⟩ := re_e hR
      subst e3
      exact W.vret hx hb hr (fun t ht hW => ⟨⟨(), rfl, trivial, by rw [ht]; exact hP, va_K.moved hW.alike hK, hD⟩, hS.F ht⟩) hS.2.2 d_Model_run_IIII_462
    · replace hR := if_n c86 hR
      refine lv_aload_n hx hb d_Model_run_IIII_434 rfl (lv_at hl 0 rfl) ?_
      refine rd_Model_310 hx hb hT hown hK hP d_Model_run_IIII_435 ?_
      refine lv_aload_n hx hb d_Model_run_IIII_438 rfl (lv_at hl 0 rfl) ?_
      refine rd_Model_811 hx hb hT hown hK hP d_Model_run_IIII_439 ?_
      refine lv_aload_n hx hb d_Model_run_IIII_442 rfl (lv_at hl 0 rfl) ?_
      refine rd_Model_207 hx hb hT hown hK hP d_Model_run_IIII_443 ?_
      refine lv_aload_n hx hb d_Model_run_IIII_446 rfl (lv_at hl 0 rfl) ?_
      refine rd_Model_799 hx hb hT hown hK hP d_Model_run_IIII_447 ?_
      replace hR := gd_e hR
      obtain ⟨b88, hR⟩ := hR
      refine laM_64 hx hb hK hP b88 d_Model_run_IIII_450 ?_
      replace hR := gd_e hR
      obtain ⟨b89, hR⟩ := hR
      refine saM_98 hx hb hK hP hD hS b89 d_Model_run_IIII_451 (fun T89 eT H locs hP hD hS => ?_)
      replace hR := stK_e eT hR
      clear eT
      refine lv_aload_n hx hb d_Model_run_IIII_452 rfl (lv_at hl 0 rfl) ?_
      refine lv_dup hx hb d_Model_run_IIII_453 rfl ?_
      refine rd_Model_811 hx hb hT hown hK hP d_Model_run_IIII_454 ?_
      refine lv_iconst (v := 1) hx hb d_Model_run_IIII_457 (by decide) ?_
      refine lv_iadd hx hb d_Model_run_IIII_458 ?_
      refine wr_Model_811 hx hb hT hown hK hP hD hS d_Model_run_IIII_459 (fun T90 eT H locs hP hD hS => ?_)
      replace hR := stK_e eT hR
      clear eT
      obtain ⟨-, -, e3⟩ := re_e hR
      subst e3
      exact W.vret hx hb hr (fun t ht hW => ⟨⟨(), rfl, trivial, by rw [ht]; exact hP, va_K.moved hW.alike hK, hD⟩, hS.F ht⟩) hS.2.2 d_Model_run_IIII_462
  replace hR := if_n c84 hR
  by_cases c91 : p1 = (30 : Int32)
  · replace hR := if_p c91 hR
    refine lv_tableIn (off := 462) (tgt := 463) hx hb d_Model_run_IIII_1 (by rw [c91]; decide) (by rw [c91]; decide) (by rw [c91]; decide) (by decide) ?_
    refine lv_aload_n hx hb d_Model_run_IIII_463 rfl (lv_at hl 0 rfl) ?_
    refine lv_dup hx hb d_Model_run_IIII_464 rfl ?_
    refine rd_Model_799 hx hb hT hown hK hP d_Model_run_IIII_465 ?_
    refine lv_iconst (v := 1) hx hb d_Model_run_IIII_468 (by decide) ?_
    refine lv_isub hx hb d_Model_run_IIII_469 ?_
    refine wr_Model_799 hx hb hT hown hK hP hD hS d_Model_run_IIII_470 (fun T92 eT H locs hP hD hS => ?_)
    replace hR := stK_e eT hR
    clear eT
    refine lv_aload_n hx hb d_Model_run_IIII_473 rfl (lv_at hl 0 rfl) ?_
    refine lv_aload_n hx hb d_Model_run_IIII_474 rfl (lv_at hl 0 rfl) ?_
    refine rd_Model_207 hx hb hT hown hK hP d_Model_run_IIII_475 ?_
    refine lv_aload_n hx hb d_Model_run_IIII_478 rfl (lv_at hl 0 rfl) ?_
    refine rd_Model_799 hx hb hT hown hK hP d_Model_run_IIII_479 ?_
    replace hR := gd_e hR
    obtain ⟨b93, hR⟩ := hR
    refine laM_64 hx hb hK hP b93 d_Model_run_IIII_482 ?_
    replace hR := bi_e hR
    obtain ⟨r94, l94, T94, hc94, hR⟩ := hR
    refine gcV_v (rest := []) ⟨hx, hb, hml, hown, hT⟩ (h_Model_raise _ _ _ _ _ hc94) (cwV 1 hT (gV ml_Model_847 im_Model_raise se_Model_raise ini_Model co_Model_raise) rfl rfl rfl pd_Model_raise ⟨rm_hi, rm_lo (Nat.le_of_ble_eq_true rfl)⟩) hK hP hD hS hA hnw henv (Nat.le_of_ble_eq_true rfl) rfl rfl hl.1 rfl (Nat.le_of_ble_eq_true rfl) d_Model_run_IIII_483 ⟨Nat.le_refl _, Nat.le_refl _⟩ (fun H locs hP hD hS => ?_)
    clear hc94
    obtain ⟨-, -, e3⟩ := re_e hR
    subst e3
    exact W.vret hx hb hr (fun t ht hW => ⟨⟨(), rfl, trivial, by rw [ht]; exact hP, va_K.moved hW.alike hK, hD⟩, hS.F ht⟩) hS.2.2 d_Model_run_IIII_486
  replace hR := if_n c91 hR
  by_cases c95 : p1 = (31 : Int32)
  · replace hR := if_p c95 hR
    refine lv_tableIn (off := 497) (tgt := 498) hx hb d_Model_run_IIII_1 (by rw [c95]; decide) (by rw [c95]; decide) (by rw [c95]; decide) (by decide) ?_
    refine lv_aload_n hx hb d_Model_run_IIII_498 rfl (lv_at hl 0 rfl) ?_
    refine rd_Model_240 hx hb hT hown hK hP d_Model_run_IIII_499 ?_
    refine lv_bipush (v := 12) hx hb d_Model_run_IIII_502 (by decide) ?_
    refine lv_aload_n hx hb d_Model_run_IIII_504 rfl (lv_at hl 0 rfl) ?_
    refine rd_Model_808 hx hb hT hown hK hP d_Model_run_IIII_505 ?_
    refine lv_iconst (v := 1) hx hb d_Model_run_IIII_508 (by decide) ?_
    refine lv_isub hx hb d_Model_run_IIII_509 ?_
    refine lv_imul hx hb d_Model_run_IIII_510 ?_
    refine lv_iload_n hx hb d_Model_run_IIII_511 rfl (lv_at hl 2 rfl) ?_
    refine lv_iadd hx hb d_Model_run_IIII_512 ?_
    refine lv_aload_n hx hb d_Model_run_IIII_513 rfl (lv_at hl 0 rfl) ?_
    refine rd_Model_826 hx hb hT hown hK hP d_Model_run_IIII_514 ?_
    replace hR := gd_e hR
    obtain ⟨b96, hR⟩ := hR
    refine saM_75 hx hb hK hP hD hS b96 d_Model_run_IIII_517 (fun T96 eT H locs hP hD hS => ?_)
    replace hR := stK_e eT hR
    clear eT
    refine lv_aload_n hx hb d_Model_run_IIII_518 rfl (lv_at hl 0 rfl) ?_
    refine lv_aload_n hx hb d_Model_run_IIII_519 rfl (lv_at hl 0 rfl) ?_
    refine rd_Model_826 hx hb hT hown hK hP d_Model_run_IIII_520 ?_
    replace hR := bi_e hR
    obtain ⟨r97, l97, T97, hc97, hR⟩ := hR
    refine gcV_v (rest := []) ⟨hx, hb, hml, hown, hT⟩ (h_Model_begin _ _ _ _ _ hc97) (cwV 1 hT (gV ml_Model_881 im_Model_begin se_Model_begin ini_Model co_Model_begin) rfl rfl rfl pd_Model_begin ⟨rm_hi, rm_lo (Nat.le_of_ble_eq_true rfl)⟩) hK hP hD hS hA hnw henv (Nat.le_of_ble_eq_true rfl) rfl rfl hl.1 rfl (Nat.le_of_ble_eq_true rfl) d_Model_run_IIII_523 ⟨Nat.le_refl _, Nat.le_refl _⟩ (fun H locs hP hD hS => ?_)
    clear hc97
    refine lv_aload_n hx hb d_Model_run_IIII_526 rfl (lv_at hl 0 rfl) ?_
    refine lv_dup hx hb d_Model_run_IIII_527 rfl ?_
    refine rd_Model_826 hx hb hT hown hK hP d_Model_run_IIII_528 ?_
    refine lv_iconst (v := 1) hx hb d_Model_run_IIII_531 (by decide) ?_
    refine lv_iadd hx hb d_Model_run_IIII_532 ?_
    refine wr_Model_826 hx hb hT hown hK hP hD hS d_Model_run_IIII_533 (fun T98 eT H locs hP hD hS => ?_)
    replace hR := stK_e eT hR
    clear eT
    obtain ⟨-, -, e3⟩ := re_e hR
    subst e3
    exact W.vret hx hb hr (fun t ht hW => ⟨⟨(), rfl, trivial, by rw [ht]; exact hP, va_K.moved hW.alike hK, hD⟩, hS.F ht⟩) hS.2.2 d_Model_run_IIII_536
  replace hR := if_n c95 hR
  by_cases c99 : p1 = (32 : Int32)
  · replace hR := if_p c99 hR
    refine lv_tableIn (off := 536) (tgt := 537) hx hb d_Model_run_IIII_1 (by rw [c99]; decide) (by rw [c99]; decide) (by rw [c99]; decide) (by decide) ?_
    have g := lb_537 T0 p2 hR
    rw [hG] at g
    exact g _ _ hP hD hS _ (lv_sub hl [0, 2] rfl)
  replace hR := if_n c99 hR
  by_cases c100 : p1 = (33 : Int32)
  · replace hR := if_p c100 hR
    refine lv_tableIn (off := 536) (tgt := 537) hx hb d_Model_run_IIII_1 (by rw [c100]; decide) (by rw [c100]; decide) (by rw [c100]; decide) (by decide) ?_
    have g := lb_537 T0 p2 hR
    rw [hG] at g
    exact g _ _ hP hD hS _ (lv_sub hl [0, 2] rfl)
  replace hR := if_n c100 hR
  by_cases c101 : p1 = (34 : Int32)
  · replace hR := if_p c101 hR
    refine lv_tableIn (off := 593) (tgt := 594) hx hb d_Model_run_IIII_1 (by rw [c101]; decide) (by rw [c101]; decide) (by rw [c101]; decide) (by decide) ?_
    refine lv_aload_n hx hb d_Model_run_IIII_594 rfl (lv_at hl 0 rfl) ?_
    refine rd_Model_246 hx hb hT hown hK hP d_Model_run_IIII_595 ?_
    refine lv_aload_n hx hb d_Model_run_IIII_598 rfl (lv_at hl 0 rfl) ?_
    refine rd_Model_832 hx hb hT hown hK hP d_Model_run_IIII_599 ?_
    refine lv_iload_n hx hb d_Model_run_IIII_602 rfl (lv_at hl 2 rfl) ?_
    replace hR := gd_e hR
    obtain ⟨b102, hR⟩ := hR
    refine saM_77 hx hb hK hP hD hS b102 d_Model_run_IIII_603 (fun T102 eT H locs hP hD hS => ?_)
    replace hR := stK_e eT hR
    clear eT
    refine lv_aload_n hx hb d_Model_run_IIII_604 rfl (lv_at hl 0 rfl) ?_
    refine rd_Model_249 hx hb hT hown hK hP d_Model_run_IIII_605 ?_
    refine lv_aload_n hx hb d_Model_run_IIII_608 rfl (lv_at hl 0 rfl) ?_
    refine rd_Model_832 hx hb hT hown hK hP d_Model_run_IIII_609 ?_
    refine lv_aload_n hx hb d_Model_run_IIII_612 rfl (lv_at hl 0 rfl) ?_
    refine rd_Model_808 hx hb hT hown hK hP d_Model_run_IIII_613 ?_
    replace hR := gd_e hR
    obtain ⟨b103, hR⟩ := hR
    refine saM_78 hx hb hK hP hD hS b103 d_Model_run_IIII_616 (fun T103 eT H locs hP hD hS => ?_)
    replace hR := stK_e eT hR
    clear eT
    refine lv_aload_n hx hb d_Model_run_IIII_617 rfl (lv_at hl 0 rfl) ?_
    refine rd_Model_252 hx hb hT hown hK hP d_Model_run_IIII_618 ?_
    refine lv_aload_n hx hb d_Model_run_IIII_621 rfl (lv_at hl 0 rfl) ?_
    refine rd_Model_832 hx hb hT hown hK hP d_Model_run_IIII_622 ?_
    refine lv_aload_n hx hb d_Model_run_IIII_625 rfl (lv_at hl 0 rfl) ?_
    refine rd_Model_799 hx hb hT hown hK hP d_Model_run_IIII_626 ?_
    replace hR := gd_e hR
    obtain ⟨b104, hR⟩ := hR
    refine saM_79 hx hb hK hP hD hS b104 d_Model_run_IIII_629 (fun T104 eT H locs hP hD hS => ?_)
    replace hR := stK_e eT hR
    clear eT
    refine lv_aload_n hx hb d_Model_run_IIII_630 rfl (lv_at hl 0 rfl) ?_
    refine rd_Model_255 hx hb hT hown hK hP d_Model_run_IIII_631 ?_
    refine lv_aload_n hx hb d_Model_run_IIII_634 rfl (lv_at hl 0 rfl) ?_
    refine rd_Model_832 hx hb hT hown hK hP d_Model_run_IIII_635 ?_
    refine lv_aload_n hx hb d_Model_run_IIII_638 rfl (lv_at hl 0 rfl) ?_
    refine rd_Model_826 hx hb hT hown hK hP d_Model_run_IIII_639 ?_
    replace hR := gd_e hR
    obtain ⟨b105, hR⟩ := hR
    refine saM_80 hx hb hK hP hD hS b105 d_Model_run_IIII_642 (fun T105 eT H locs hP hD hS => ?_)
    replace hR := stK_e eT hR
    clear eT
    refine lv_aload_n hx hb d_Model_run_IIII_643 rfl (lv_at hl 0 rfl) ?_
    refine rd_Model_258 hx hb hT hown hK hP d_Model_run_IIII_644 ?_
    refine lv_aload_n hx hb d_Model_run_IIII_647 rfl (lv_at hl 0 rfl) ?_
    refine rd_Model_832 hx hb hT hown hK hP d_Model_run_IIII_648 ?_
    refine lv_iload_n hx hb d_Model_run_IIII_651 rfl (lv_at hl 3 rfl) ?_
    replace hR := gd_e hR
    obtain ⟨b106, hR⟩ := hR
    refine saM_81 hx hb hK hP hD hS b106 d_Model_run_IIII_652 (fun T106 eT H locs hP hD hS => ?_)
    replace hR := stK_e eT hR
    clear eT
    refine lv_aload_n hx hb d_Model_run_IIII_653 rfl (lv_at hl 0 rfl) ?_
    refine lv_dup hx hb d_Model_run_IIII_654 rfl ?_
    refine rd_Model_832 hx hb hT hown hK hP d_Model_run_IIII_655 ?_
    refine lv_iconst (v := 1) hx hb d_Model_run_IIII_658 (by decide) ?_
    refine lv_iadd hx hb d_Model_run_IIII_659 ?_
    refine wr_Model_832 hx hb hT hown hK hP hD hS d_Model_run_IIII_660 (fun T107 eT H locs hP hD hS => ?_)
    replace hR := stK_e eT hR
    clear eT
    obtain ⟨-, -, e3⟩ := re_e hR
    subst e3
    exact W.vret hx hb hr (fun t ht hW => ⟨⟨(), rfl, trivial, by rw [ht]; exact hP, va_K.moved hW.alike hK, hD⟩, hS.F ht⟩) hS.2.2 d_Model_run_IIII_663
  replace hR := if_n c101 hR
  by_cases c108 : p1 = (35 : Int32)
  · replace hR := if_p c108 hR
    refine lv_tableIn (off := 663) (tgt := 664) hx hb d_Model_run_IIII_1 (by rw [c108]; decide) (by rw [c108]; decide) (by rw [c108]; decide) (by decide) ?_
    refine lv_aload_n hx hb d_Model_run_IIII_664 rfl (lv_at hl 0 rfl) ?_
    refine lv_dup hx hb d_Model_run_IIII_665 rfl ?_
    refine rd_Model_832 hx hb hT hown hK hP d_Model_run_IIII_666 ?_
    refine lv_iconst (v := 1) hx hb d_Model_run_IIII_669 (by decide) ?_
    refine lv_isub hx hb d_Model_run_IIII_670 ?_
    refine wr_Model_832 hx hb hT hown hK hP hD hS d_Model_run_IIII_671 (fun T109 eT H locs hP hD hS => ?_)
    replace hR := stK_e eT hR
    clear eT
    obtain ⟨-, -, e3⟩ := re_e hR
    subst e3
    exact W.vret hx hb hr (fun t ht hW => ⟨⟨(), rfl, trivial, by rw [ht]; exact hP, va_K.moved hW.alike hK, hD⟩, hS.F ht⟩) hS.2.2 d_Model_run_IIII_674
  replace hR := if_n c108 hR
  by_cases c110 : p1 = (36 : Int32)
  · replace hR := if_p c110 hR
    refine lv_tableIn (off := 486) (tgt := 487) hx hb d_Model_run_IIII_1 (by rw [c110]; decide) (by rw [c110]; decide) (by rw [c110]; decide) (by decide) ?_
    refine lv_aload_n hx hb d_Model_run_IIII_487 rfl (lv_at hl 0 rfl) ?_
    refine lv_dup hx hb d_Model_run_IIII_488 rfl ?_
    refine rd_Model_799 hx hb hT hown hK hP d_Model_run_IIII_489 ?_
    refine lv_iload_n hx hb d_Model_run_IIII_492 rfl (lv_at hl 2 rfl) ?_
    refine lv_isub hx hb d_Model_run_IIII_493 ?_
    refine wr_Model_799 hx hb hT hown hK hP hD hS d_Model_run_IIII_494 (fun T111 eT H locs hP hD hS => ?_)
    replace hR := stK_e eT hR
    clear eT
    obtain ⟨-, -, e3⟩ := re_e hR
    subst e3
    exact W.vret hx hb hr (fun t ht hW => ⟨⟨(), rfl, trivial, by rw [ht]; exact hP, va_K.moved hW.alike hK, hD⟩, hS.F ht⟩) hS.2.2 d_Model_run_IIII_497
  replace hR := if_n c110 hR
  have h3112 : (p1 : Int32).toInt < 1 ∨ 36 < (p1 : Int32).toInt := by
    simp only [i_eq, Int32.reduceToInt] at c1 c3 c5 c8 c11 c22 c24 c26 c28 c30 c32 c34 c36 c38 c40 c42 c44 c46 c48 c50 c52 c54 c65 c67 c69 c71 c80 c82 c84 c91 c95 c99 c100 c101 c108 c110; omega
  refine lv_tableOut (tgt := 692) hx hb d_Model_run_IIII_1 h3112 (by decide) ?_
  refine lv_aload_n hx hb d_Model_run_IIII_692 rfl (lv_at hl 0 rfl) ?_
  refine lv_iload_n hx hb d_Model_run_IIII_693 rfl (lv_at hl 1 rfl) ?_
  refine lv_iload_n hx hb d_Model_run_IIII_694 rfl (lv_at hl 2 rfl) ?_
  refine lv_iload_n hx hb d_Model_run_IIII_695 rfl (lv_at hl 3 rfl) ?_
  replace hR := bi_e hR
  obtain ⟨r113, l113, T113, hc113, hR⟩ := hR
  refine gcV_v (rest := []) ⟨hx, hb, hml, hown, hT⟩ (h_Model_touch _ _ _ _ _ _ _ hc113) (cwV 3 hT (gV ml_Model_890 im_Model_touch se_Model_touch ini_Model co_Model_touch) rfl rfl rfl pd_Model_touch ⟨rm_hi, rm_lo (Nat.le_of_ble_eq_true rfl)⟩) hK hP hD hS hA hnw henv (Nat.le_of_ble_eq_true rfl) rfl rfl hl.1 rfl (Nat.le_of_ble_eq_true rfl) d_Model_run_IIII_696 ⟨Nat.le_refl _, Nat.le_refl _⟩ (fun H locs hP hD hS => ?_)
  clear hc113
  obtain ⟨-, -, e3⟩ := re_e hR
  subst e3
  exact W.vret hx hb hr (fun t ht hW => ⟨⟨(), rfl, trivial, by rw [ht]; exact hP, va_K.moved hW.alike hK, hD⟩, hS.F ht⟩) hS.2.2 d_Model_run_IIII_699
set_option maxHeartbeats 4000000 in
set_option maxRecDepth 100000 in
theorem sp_Model_input_ (l : Launch) (dC : Nat → ClassId) (dI : Nat → Nat → Nat) (ea ev ad : Nat → Nat) (km : Nat → ClassId) (F : gF) (nf d : Nat) (T0 : gSt) (r0 : Int32) (rl0 : Int64) (T9 : gSt) (hR : rb_Model_input_ F nf T0 = some (r0, rl0, T9)) : GMi l dC dI LM ad km ea ev y_Model_input_ w_Model_input_ (rmD (d + 1)) [.ref (ad 0)] T0 r0 T9 := by
  intro sz
  refine Met.ofW (cc := b_Model_input_) (maxL := 3) (ret := (some .int)) (by decide) rfl ?_
  intro p e s m args below meth c s₁ B hml hv
  obtain ⟨rfl, hsz, hP, hK, hD0, hnw, henv⟩ := hv
  have hx := B.exec
  have hb := B.bytes
  have hr := B.returns
  have hT : ∀ w ∈ lw_good, w.before _ s = true := fun w h => atoms_spec (ws := w_Model_input_) B.pre w (List.mem_cons_of_mem _ h)
  have hown : s.vm.findClass R_Model = some m.cls := findClass_of_methodNamed B.named
  subst hsz
  have hD := hD0.self (sz := s.heap.size)
  clear hD0
  generalize hAe : va_A (gW LM ad km T0) s.heap.size = A at hD henv ⊢
  have hA : ∀ q : Nat, s.heap.size ≤ q → A q := fun q h => by rw [← hAe]; exact Or.inr h
  have hS : va_S A s.heap s.heap [] := va_S.rf
  have hl := lv_entry ([.ref (ad 0)]) (n := 3) (Nat.le_of_ble_eq_true rfl)
  rw [lg_entry_eq]
  generalize (lg_sl ([.ref (ad 0)]) ++ List.replicate (3 - (lg_sl ([.ref (ad 0)])).length) Slot.unset).toArray = ls at hl ⊢
  have hl : lv_has ls 3 [(0, .ref (ad 0))] := hl
  obtain ⟨G, hG⟩ : ∃ G : Nat → List (Nat × Value) → List Value → gSt → Prop, G = (fun pc lv stk T => ∀ (H : Heap) (locs : List Loc), va_P (dC, dI) cls_all (gW LM ad km T) H → va_D A (gW LM ad km T) → va_S A s.heap H locs → ∀ (ls : Array Slot), lv_has ls 3 lv → W p l e (headSpec w_Model_input_ (rmD (d + 1))).room s m ([.ref (ad 0)] : List Value).toArray below meth c H locs 0 0 (MQ below (va_Qi (fun (z : Int32) (_ : Unit) => z = r0) (fun _ t => gPost dC dI LM ad km T9 A t) A) ([.ref (ad 0)] : List Value).toArray s 0 0 A) (F0 m pc ls stk)) := ⟨_, rfl⟩
  have lb_28 : ∀ (n : Nat) (T : gSt) (x1 : Int32) (x2 : Int32), rl_Model_input__28 F nf n T x1 x2 = some (r0, rl0, T9) → G 28 [(0, .ref (ad 0)), (1, .int x1), (2, .int x2)] [] T := by
    intro n
    induction n with
    | zero => intro T x1 x2 hR; rw [rl_Model_input__28] at hR; cases hR
    | succ n ih =>
      intro T x1 x2 hR; rw [rl_Model_input__28] at hR; rw [hG]; intro H locs hP hD hS ls hl
      refine lv_iload_n hx hb d_Model_input__28 rfl (lv_at hl 2 rfl) ?_
      refine lv_aload_n hx hb d_Model_input__29 rfl (lv_at hl 0 rfl) ?_
      refine rd_Model_829 hx hb hT hown hK hP d_Model_input__30 ?_
      refine lv_icmp_ge (tgt := 56) hx hb d_Model_input__33 (by decide) (fun c6 => ?_) (fun c6 => ?_)
      · replace hR := if_p c6 hR
        refine lv_iload_n hx hb d_Model_input__56 rfl (lv_at hl 1 rfl) ?_
        obtain ⟨e1, -, e3⟩ := re_e hR
        subst e1; subst e3
        exact W.iret (v := x1) hx hb hr (fun t ht hW => ⟨⟨x1, (), rfl, rfl, by rw [ht]; exact hP, va_K.moved hW.alike hK, hD⟩, hS.F ht⟩) hS.2.2 d_Model_input__57
      · replace hR := if_n c6 hR
        refine lv_aload_n hx hb d_Model_input__36 rfl (lv_at hl 0 rfl) ?_
        refine rd_Model_307 hx hb hT hown hK hP d_Model_input__37 ?_
        refine lv_iload_n hx hb d_Model_input__40 rfl (lv_at hl 2 rfl) ?_
        refine lv_aload_n hx hb d_Model_input__41 rfl (lv_at hl 0 rfl) ?_
        refine rd_Model_307 hx hb hT hown hK hP d_Model_input__42 ?_
        refine lv_iload_n hx hb d_Model_input__45 rfl (lv_at hl 2 rfl) ?_
        refine lv_iconst (v := 1) hx hb d_Model_input__46 (by decide) ?_
        refine lv_iadd hx hb d_Model_input__47 ?_
        replace hR := gd_e hR
        obtain ⟨b8, hR⟩ := hR
        refine laM_97 hx hb hK hP b8 d_Model_input__48 ?_
        replace hR := gd_e hR
        obtain ⟨b9, hR⟩ := hR
        refine saM_97 hx hb hK hP hD hS b9 d_Model_input__49 (fun T9 eT H locs hP hD hS => ?_)
        replace hR := stK_e eT hR
        clear eT
        obtain ⟨z10, e10⟩ : ∃ y : Int32, y = x2 + (1 : Int32) := ⟨_, rfl⟩
        replace hR := vK_e e10 hR
        refine lv_iinc (v := z10) (lv' := [(2, .int z10), (0, .ref (ad 0)), (1, .int x1)]) hx hb d_Model_input__50 hl (k := 2) rfl (by rw [e10]; rfl) (by decide) rfl (fun ls hl => ?_)
        refine lv_goto (tgt := 28) hx hb d_Model_input__53 (by decide) ?_
        have g := ih T9 x1 z10 hR
        rw [hG] at g
        exact g _ _ hP hD hS _ (lv_sub hl [1, 2, 0] rfl)
  unfold rb_Model_input_ at hR
  refine lv_aload_n hx hb d_Model_input__0 rfl (lv_at hl 0 rfl) ?_
  refine rd_Model_829 hx hb hT hown hK hP d_Model_input__1 ?_
  refine lv_if_ne (tgt := 9) hx hb d_Model_input__4 (by decide) (fun c1 => ?_) (fun c1 => ?_)
  · replace hR := if_n c1 hR
    refine lv_aload_n hx hb d_Model_input__9 rfl (lv_at hl 0 rfl) ?_
    refine rd_Model_307 hx hb hT hown hK hP d_Model_input__10 ?_
    refine lv_iconst (v := 0) hx hb d_Model_input__13 (by decide) ?_
    replace hR := gd_e hR
    obtain ⟨b2, hR⟩ := hR
    refine laM_97 hx hb hK hP b2 d_Model_input__14 ?_
    refine lv_topi (fun z3 e3 => ?_)
    replace hR := vK_e e3 hR
    refine lv_istore_n (lv' := [(1, .int z3), (0, .ref (ad 0))]) hx hb d_Model_input__15 rfl hl (by decide) rfl (fun ls hl => ?_)
    refine lv_aload_n hx hb d_Model_input__16 rfl (lv_at hl 1 rfl) ?_
    refine lv_dup hx hb d_Model_input__17 rfl ?_
    refine rd_Model_829 hx hb hT hown hK hP d_Model_input__18 ?_
    refine lv_iconst (v := 1) hx hb d_Model_input__21 (by decide) ?_
    refine lv_isub hx hb d_Model_input__22 ?_
    refine wr_Model_829 hx hb hT hown hK hP hD hS d_Model_input__23 (fun T4 eT H locs hP hD hS => ?_)
    replace hR := stK_e eT hR
    clear eT
    refine lv_iconst (v := 0) hx hb d_Model_input__26 (by decide) ?_
    refine lv_istore_n (lv' := [(2, .int (0 : Int32)), (1, .int z3), (0, .ref (ad 0))]) hx hb d_Model_input__27 rfl hl (by decide) rfl (fun ls hl => ?_)
    have g := lb_28 nf T4 z3 (0 : Int32) hR
    rw [hG] at g
    exact g _ _ hP hD hS _ (lv_sub hl [2, 1, 0] rfl)
  · replace hR := if_p c1 hR
    refine lv_iconst (v := 0) hx hb d_Model_input__7 (by decide) ?_
    obtain ⟨e1, -, e3⟩ := re_e hR
    subst e1; subst e3
    exact W.iret (v := (0 : Int32)) hx hb hr (fun t ht hW => ⟨⟨(0 : Int32), (), rfl, rfl, by rw [ht]; exact hP, va_K.moved hW.alike hK, hD⟩, hS.F ht⟩) hS.2.2 d_Model_input__8
set_option maxHeartbeats 4000000 in
set_option maxRecDepth 100000 in
theorem sp_Model_invoke (l : Launch) (dC : Nat → ClassId) (dI : Nat → Nat → Nat) (ea ev ad : Nat → Nat) (km : Nat → ClassId) (F : gF) (nf d : Nat) (h_Model_regionIndex : mt_Model_regionIndex l dC dI ea ev ad km F d) (T0 : gSt) (p1 : Int32) (p2 : Int32) (r0 : Int32) (rl0 : Int64) (T9 : gSt) (hR : rb_Model_invoke F nf T0 p1 p2 = some (r0, rl0, T9)) : GMv l dC dI LM ad km ea ev y_Model_invoke w_Model_invoke (rmD (d + 1)) [.ref (ad 0), .int p1, .int p2] T0 T9 := by
  intro sz
  refine Met.ofW (cc := b_Model_invoke) (maxL := 6) (ret := none) (by decide) rfl ?_
  intro p e s m args below meth c s₁ B hml hv
  obtain ⟨rfl, hsz, hP, hK, hD0, hnw, henv⟩ := hv
  have hx := B.exec
  have hb := B.bytes
  have hr := B.returns
  have hT : ∀ w ∈ lw_good, w.before _ s = true := fun w h => atoms_spec (ws := w_Model_invoke) B.pre w (List.mem_cons_of_mem _ h)
  have hown : s.vm.findClass R_Model = some m.cls := findClass_of_methodNamed B.named
  subst hsz
  have hD := hD0.self (sz := s.heap.size)
  clear hD0
  generalize hAe : va_A (gW LM ad km T0) s.heap.size = A at hD henv ⊢
  have hA : ∀ q : Nat, s.heap.size ≤ q → A q := fun q h => by rw [← hAe]; exact Or.inr h
  have hS : va_S A s.heap s.heap [] := va_S.rf
  have hl := lv_entry ([.ref (ad 0), .int p1, .int p2]) (n := 6) (Nat.le_of_ble_eq_true rfl)
  rw [lg_entry_eq]
  generalize (lg_sl ([.ref (ad 0), .int p1, .int p2]) ++ List.replicate (6 - (lg_sl ([.ref (ad 0), .int p1, .int p2])).length) Slot.unset).toArray = ls at hl ⊢
  have hl : lv_has ls 6 [(0, .ref (ad 0)), (1, .int p1), (2, .int p2)] := hl
  obtain ⟨G, hG⟩ : ∃ G : Nat → List (Nat × Value) → List Value → gSt → Prop, G = (fun pc lv stk T => ∀ (H : Heap) (locs : List Loc), va_P (dC, dI) cls_all (gW LM ad km T) H → va_D A (gW LM ad km T) → va_S A s.heap H locs → ∀ (ls : Array Slot), lv_has ls 6 lv → W p l e (headSpec w_Model_invoke (rmD (d + 1))).room s m ([.ref (ad 0), .int p1, .int p2] : List Value).toArray below meth c H locs 0 0 (MQ below (va_Qv (fun (_ : Unit) => True) (fun _ t => gPost dC dI LM ad km T9 A t) A) ([.ref (ad 0), .int p1, .int p2] : List Value).toArray s 0 0 A) (F0 m pc ls stk)) := ⟨_, rfl⟩
  have lb_89 : ∀ (n : Nat) (T : gSt) (x1 : Int32) (x3 : Int32) (x5 : Int32), rl_Model_invoke_89 F nf n T x1 x3 x5 = some (r0, rl0, T9) → G 89 [(0, .ref (ad 0)), (1, .int x1), (3, .int x3), (5, .int x5)] [] T := by
    intro n
    induction n with
    | zero => intro T x1 x3 x5 hR; rw [rl_Model_invoke_89] at hR; cases hR
    | succ n ih =>
      intro T x1 x3 x5 hR; rw [rl_Model_invoke_89] at hR; rw [hG]; intro H locs hP hD hS ls hl
      refine lv_iload hx hb d_Model_invoke_89 (lv_at hl 3 rfl) ?_
      refine lv_iload_n hx hb d_Model_invoke_91 rfl (lv_at hl 2 rfl) ?_
      refine lv_icmp_ge (tgt := 209) hx hb d_Model_invoke_92 (by decide) (fun c13 => ?_) (fun c13 => ?_)
      · replace hR := if_p c13 hR
        refine lv_aload_n hx hb d_Model_invoke_209 rfl (lv_at hl 0 rfl) ?_
        refine rd_Model_219 hx hb hT hown hK hP d_Model_invoke_210 ?_
        refine lv_aload_n hx hb d_Model_invoke_213 rfl (lv_at hl 0 rfl) ?_
        refine rd_Model_808 hx hb hT hown hK hP d_Model_invoke_214 ?_
        refine lv_aload_n hx hb d_Model_invoke_217 rfl (lv_at hl 0 rfl) ?_
        refine rd_Model_863 hx hb hT hown hK hP d_Model_invoke_218 ?_
        replace hR := gd_e hR
        obtain ⟨b14, hR⟩ := hR
        refine saM_68 hx hb hK hP hD hS b14 d_Model_invoke_221 (fun T14 eT H locs hP hD hS => ?_)
        replace hR := stK_e eT hR
        clear eT
        refine lv_aload_n hx hb d_Model_invoke_222 rfl (lv_at hl 0 rfl) ?_
        refine rd_Model_225 hx hb hT hown hK hP d_Model_invoke_223 ?_
        refine lv_aload_n hx hb d_Model_invoke_226 rfl (lv_at hl 0 rfl) ?_
        refine rd_Model_808 hx hb hT hown hK hP d_Model_invoke_227 ?_
        refine lv_aload_n hx hb d_Model_invoke_230 rfl (lv_at hl 0 rfl) ?_
        refine rd_Model_826 hx hb hT hown hK hP d_Model_invoke_231 ?_
        replace hR := gd_e hR
        obtain ⟨b15, hR⟩ := hR
        refine saM_70 hx hb hK hP hD hS b15 d_Model_invoke_234 (fun T15 eT H locs hP hD hS => ?_)
        replace hR := stK_e eT hR
        clear eT
        refine lv_aload_n hx hb d_Model_invoke_235 rfl (lv_at hl 0 rfl) ?_
        refine lv_dup hx hb d_Model_invoke_236 rfl ?_
        refine rd_Model_808 hx hb hT hown hK hP d_Model_invoke_237 ?_
        refine lv_iconst (v := 1) hx hb d_Model_invoke_240 (by decide) ?_
        refine lv_iadd hx hb d_Model_invoke_241 ?_
        refine wr_Model_808 hx hb hT hown hK hP hD hS d_Model_invoke_242 (fun T16 eT H locs hP hD hS => ?_)
        replace hR := stK_e eT hR
        clear eT
        refine lv_aload_n hx hb d_Model_invoke_245 rfl (lv_at hl 0 rfl) ?_
        refine lv_aload_n hx hb d_Model_invoke_246 rfl (lv_at hl 0 rfl) ?_
        refine rd_Model_87 hx hb hT hown hK hP d_Model_invoke_247 ?_
        refine lv_iload_n hx hb d_Model_invoke_250 rfl (lv_at hl 1 rfl) ?_
        replace hR := gd_e hR
        obtain ⟨b17, hR⟩ := hR
        refine laM_24 hx hb hK hP b17 d_Model_invoke_251 ?_
        refine wr_Model_863 hx hb hT hown hK hP hD hS d_Model_invoke_252 (fun T18 eT H locs hP hD hS => ?_)
        replace hR := stK_e eT hR
        clear eT
        obtain ⟨-, -, e3⟩ := re_e hR
        subst e3
        exact W.vret hx hb hr (fun t ht hW => ⟨⟨(), rfl, trivial, by rw [ht]; exact hP, va_K.moved hW.alike hK, hD⟩, hS.F ht⟩) hS.2.2 d_Model_invoke_255
      · replace hR := if_n c13 hR
        refine lv_aload_n hx hb d_Model_invoke_95 rfl (lv_at hl 0 rfl) ?_
        refine rd_Model_228 hx hb hT hown hK hP d_Model_invoke_96 ?_
        refine lv_bipush (v := 20) hx hb d_Model_invoke_99 (by decide) ?_
        refine lv_aload_n hx hb d_Model_invoke_101 rfl (lv_at hl 0 rfl) ?_
        refine rd_Model_808 hx hb hT hown hK hP d_Model_invoke_102 ?_
        refine lv_imul hx hb d_Model_invoke_105 ?_
        refine lv_iload hx hb d_Model_invoke_106 (lv_at hl 3 rfl) ?_
        refine lv_iadd hx hb d_Model_invoke_108 ?_
        refine lv_aload_n hx hb d_Model_invoke_109 rfl (lv_at hl 0 rfl) ?_
        refine rd_Model_207 hx hb hT hown hK hP d_Model_invoke_110 ?_
        refine lv_aload_n hx hb d_Model_invoke_113 rfl (lv_at hl 0 rfl) ?_
        refine rd_Model_799 hx hb hT hown hK hP d_Model_invoke_114 ?_
        refine lv_iload hx hb d_Model_invoke_117 (lv_at hl 3 rfl) ?_
        refine lv_iadd hx hb d_Model_invoke_119 ?_
        replace hR := gd_e hR
        obtain ⟨b19, hR⟩ := hR
        refine laM_64 hx hb hK hP b19 d_Model_invoke_120 ?_
        replace hR := gd_e hR
        obtain ⟨b20, hR⟩ := hR
        refine saM_71 hx hb hK hP hD hS b20 d_Model_invoke_121 (fun T20 eT H locs hP hD hS => ?_)
        replace hR := stK_e eT hR
        clear eT
        refine lv_aload_n hx hb d_Model_invoke_122 rfl (lv_at hl 0 rfl) ?_
        refine rd_Model_231 hx hb hT hown hK hP d_Model_invoke_123 ?_
        refine lv_bipush (v := 20) hx hb d_Model_invoke_126 (by decide) ?_
        refine lv_aload_n hx hb d_Model_invoke_128 rfl (lv_at hl 0 rfl) ?_
        refine rd_Model_808 hx hb hT hown hK hP d_Model_invoke_129 ?_
        refine lv_imul hx hb d_Model_invoke_132 ?_
        refine lv_iload hx hb d_Model_invoke_133 (lv_at hl 3 rfl) ?_
        refine lv_iadd hx hb d_Model_invoke_135 ?_
        refine lv_aload_n hx hb d_Model_invoke_136 rfl (lv_at hl 0 rfl) ?_
        refine rd_Model_210 hx hb hT hown hK hP d_Model_invoke_137 ?_
        refine lv_aload_n hx hb d_Model_invoke_140 rfl (lv_at hl 0 rfl) ?_
        refine rd_Model_799 hx hb hT hown hK hP d_Model_invoke_141 ?_
        refine lv_iload hx hb d_Model_invoke_144 (lv_at hl 3 rfl) ?_
        refine lv_iadd hx hb d_Model_invoke_146 ?_
        replace hR := gd_e hR
        obtain ⟨b21, hR⟩ := hR
        refine laM_65 hx hb hK hP b21 d_Model_invoke_147 ?_
        replace hR := gd_e hR
        obtain ⟨b22, hR⟩ := hR
        refine saM_72 hx hb hK hP hD hS b22 d_Model_invoke_148 (fun T22 eT H locs hP hD hS => ?_)
        replace hR := stK_e eT hR
        clear eT
        refine lv_aload_n hx hb d_Model_invoke_149 rfl (lv_at hl 0 rfl) ?_
        refine rd_Model_234 hx hb hT hown hK hP d_Model_invoke_150 ?_
        refine lv_bipush (v := 20) hx hb d_Model_invoke_153 (by decide) ?_
        refine lv_aload_n hx hb d_Model_invoke_155 rfl (lv_at hl 0 rfl) ?_
        refine rd_Model_808 hx hb hT hown hK hP d_Model_invoke_156 ?_
        refine lv_imul hx hb d_Model_invoke_159 ?_
        refine lv_iload hx hb d_Model_invoke_160 (lv_at hl 3 rfl) ?_
        refine lv_iadd hx hb d_Model_invoke_162 ?_
        refine lv_aload_n hx hb d_Model_invoke_163 rfl (lv_at hl 0 rfl) ?_
        refine rd_Model_213 hx hb hT hown hK hP d_Model_invoke_164 ?_
        refine lv_aload_n hx hb d_Model_invoke_167 rfl (lv_at hl 0 rfl) ?_
        refine rd_Model_799 hx hb hT hown hK hP d_Model_invoke_168 ?_
        refine lv_iload hx hb d_Model_invoke_171 (lv_at hl 3 rfl) ?_
        refine lv_iadd hx hb d_Model_invoke_173 ?_
        replace hR := gd_e hR
        obtain ⟨b23, hR⟩ := hR
        refine laM_66 hx hb hK hP b23 d_Model_invoke_174 ?_
        replace hR := gd_e hR
        obtain ⟨b24, hR⟩ := hR
        refine saM_73 hx hb hK hP hD hS b24 d_Model_invoke_175 (fun T24 eT H locs hP hD hS => ?_)
        replace hR := stK_e eT hR
        clear eT
        refine lv_aload_n hx hb d_Model_invoke_176 rfl (lv_at hl 0 rfl) ?_
        refine rd_Model_237 hx hb hT hown hK hP d_Model_invoke_177 ?_
        refine lv_bipush (v := 20) hx hb d_Model_invoke_180 (by decide) ?_
        refine lv_aload_n hx hb d_Model_invoke_182 rfl (lv_at hl 0 rfl) ?_
        refine rd_Model_808 hx hb hT hown hK hP d_Model_invoke_183 ?_
        refine lv_imul hx hb d_Model_invoke_186 ?_
        refine lv_iload hx hb d_Model_invoke_187 (lv_at hl 3 rfl) ?_
        refine lv_iadd hx hb d_Model_invoke_189 ?_
        refine lv_aload_n hx hb d_Model_invoke_190 rfl (lv_at hl 0 rfl) ?_
        refine rd_Model_216 hx hb hT hown hK hP d_Model_invoke_191 ?_
        refine lv_aload_n hx hb d_Model_invoke_194 rfl (lv_at hl 0 rfl) ?_
        refine rd_Model_799 hx hb hT hown hK hP d_Model_invoke_195 ?_
        refine lv_iload hx hb d_Model_invoke_198 (lv_at hl 3 rfl) ?_
        refine lv_iadd hx hb d_Model_invoke_200 ?_
        replace hR := gd_e hR
        obtain ⟨b25, hR⟩ := hR
        refine laM_67 hx hb hK hP b25 d_Model_invoke_201 ?_
        replace hR := gd_e hR
        obtain ⟨b26, hR⟩ := hR
        refine saM_74 hx hb hK hP hD hS b26 d_Model_invoke_202 (fun T26 eT H locs hP hD hS => ?_)
        replace hR := stK_e eT hR
        clear eT
        obtain ⟨z27, e27⟩ : ∃ y : Int32, y = x5 + (1 : Int32) := ⟨_, rfl⟩
        replace hR := vK_e e27 hR
        refine lv_iinc (v := z27) (lv' := [(5, .int z27), (0, .ref (ad 0)), (1, .int x1), (3, .int x3)]) hx hb d_Model_invoke_203 hl (k := 3) rfl (by rw [e27]; rfl) (by decide) rfl (fun ls hl => ?_)
        refine lv_goto (tgt := 89) hx hb d_Model_invoke_206 (by decide) ?_
        have g := ih T26 x1 x3 z27 hR
        rw [hG] at g
        exact g _ _ hP hD hS _ (lv_sub hl [1, 2, 3, 0] rfl)
  have lb_34 : ∀ (n : Nat) (T : gSt) (x1 : Int32) (x2 : Int32) (x3 : Int32) (x4 : Int32) (x5 : Int32), rl_Model_invoke_34 F nf n T x1 x2 x3 x4 x5 = some (r0, rl0, T9) → G 34 [(0, .ref (ad 0)), (1, .int x1), (2, .int x2), (3, .int x3), (4, .int x4), (5, .int x5)] [] T := by
    intro n
    induction n with
    | zero => intro T x1 x2 x3 x4 x5 hR; rw [rl_Model_invoke_34] at hR; cases hR
    | succ n ih =>
      intro T x1 x2 x3 x4 x5 hR; rw [rl_Model_invoke_34] at hR; rw [hG]; intro H locs hP hD hS ls hl
      refine lv_iload hx hb d_Model_invoke_34 (lv_at hl 5 rfl) ?_
      refine lv_aload_n hx hb d_Model_invoke_36 rfl (lv_at hl 0 rfl) ?_
      refine rd_Model_27 hx hb hT hown hK hP d_Model_invoke_37 ?_
      refine lv_iload_n hx hb d_Model_invoke_40 rfl (lv_at hl 1 rfl) ?_
      replace hR := gd_e hR
      obtain ⟨b6, hR⟩ := hR
      refine laM_4 hx hb hK hP b6 d_Model_invoke_41 ?_
      refine lv_icmp_ge (tgt := 76) hx hb d_Model_invoke_42 (by decide) (fun c7 => ?_) (fun c7 => ?_)
      · replace hR := if_p c7 hR
        refine lv_aload_n hx hb d_Model_invoke_76 rfl (lv_at hl 0 rfl) ?_
        refine lv_dup hx hb d_Model_invoke_77 rfl ?_
        refine rd_Model_799 hx hb hT hown hK hP d_Model_invoke_78 ?_
        refine lv_iload_n hx hb d_Model_invoke_81 rfl (lv_at hl 3 rfl) ?_
        refine lv_isub hx hb d_Model_invoke_82 ?_
        refine wr_Model_799 hx hb hT hown hK hP hD hS d_Model_invoke_83 (fun T8 eT H locs hP hD hS => ?_)
        replace hR := stK_e eT hR
        clear eT
        refine lv_iconst (v := 0) hx hb d_Model_invoke_86 (by decide) ?_
        refine lv_istore (lv' := [(5, .int (0 : Int32)), (0, .ref (ad 0)), (1, .int x1), (2, .int x2), (3, .int x3), (4, .int x4)]) hx hb d_Model_invoke_87 hl (by decide) rfl (fun ls hl => ?_)
        have g := lb_89 nf T8 x1 x3 (0 : Int32) hR
        rw [hG] at g
        exact g _ _ hP hD hS _ (lv_sub hl [1, 2, 4, 0] rfl)
      · replace hR := if_n c7 hR
        refine lv_aload_n hx hb d_Model_invoke_45 rfl (lv_at hl 0 rfl) ?_
        refine rd_Model_240 hx hb hT hown hK hP d_Model_invoke_46 ?_
        refine lv_iload hx hb d_Model_invoke_49 (lv_at hl 4 rfl) ?_
        refine lv_iconst (v := 1) hx hb d_Model_invoke_51 (by decide) ?_
        refine lv_iadd hx hb d_Model_invoke_52 ?_
        refine lv_iload hx hb d_Model_invoke_53 (lv_at hl 5 rfl) ?_
        refine lv_iadd hx hb d_Model_invoke_55 ?_
        refine lv_aload_n hx hb d_Model_invoke_56 rfl (lv_at hl 0 rfl) ?_
        refine lv_aload_n hx hb d_Model_invoke_57 rfl (lv_at hl 0 rfl) ?_
        refine rd_Model_117 hx hb hT hown hK hP d_Model_invoke_58 ?_
        refine lv_iload_n hx hb d_Model_invoke_61 rfl (lv_at hl 2 rfl) ?_
        refine lv_iload hx hb d_Model_invoke_62 (lv_at hl 5 rfl) ?_
        refine lv_iadd hx hb d_Model_invoke_64 ?_
        replace hR := gd_e hR
        obtain ⟨b9, hR⟩ := hR
        refine laM_34 hx hb hK hP b9 d_Model_invoke_65 ?_
        replace hR := bi_e hR
        obtain ⟨r10, l10, T10, hc10, hR⟩ := hR
        refine gcV_i (rest := [.int ((x4 + (1 : Int32)) + x5), .ref (ad 76)]) ⟨hx, hb, hml, hown, hT⟩ (h_Model_regionIndex _ _ _ _ _ hc10) (cwV 1 hT (gV ml_Model_893 im_Model_regionIndex se_Model_regionIndex ini_Model co_Model_regionIndex) rfl rfl rfl pd_Model_regionIndex ⟨rm_hi, rm_lo (Nat.le_of_ble_eq_true rfl)⟩) hK hP hD hS hA hnw henv (Nat.le_of_ble_eq_true rfl) rfl rfl hl.1 rfl (Nat.le_of_ble_eq_true rfl) d_Model_invoke_66 ⟨Nat.le_refl _, Nat.le_refl _⟩ (fun H locs hP hD hS => ?_)
        clear hc10
        replace hR := gd_e hR
        obtain ⟨b11, hR⟩ := hR
        refine saM_75 hx hb hK hP hD hS b11 d_Model_invoke_69 (fun T11 eT H locs hP hD hS => ?_)
        replace hR := stK_e eT hR
        clear eT
        obtain ⟨z12, e12⟩ : ∃ y : Int32, y = x5 + (1 : Int32) := ⟨_, rfl⟩
        replace hR := vK_e e12 hR
        refine lv_iinc (v := z12) (lv' := [(5, .int z12), (0, .ref (ad 0)), (1, .int x1), (2, .int x2), (3, .int x3), (4, .int x4)]) hx hb d_Model_invoke_70 hl (k := 5) rfl (by rw [e12]; rfl) (by decide) rfl (fun ls hl => ?_)
        refine lv_goto (tgt := 34) hx hb d_Model_invoke_73 (by decide) ?_
        have g := ih T11 x1 x2 x3 x4 z12 hR
        rw [hG] at g
        exact g _ _ hP hD hS _ (lv_sub hl [1, 2, 3, 4, 5, 0] rfl)
  unfold rb_Model_invoke at hR
  refine lv_aload_n hx hb d_Model_invoke_0 rfl (lv_at hl 0 rfl) ?_
  refine rd_Model_808 hx hb hT hown hK hP d_Model_invoke_1 ?_
  refine lv_bipush (v := 40) hx hb d_Model_invoke_4 (by decide) ?_
  refine lv_icmp_ne (tgt := 15) hx hb d_Model_invoke_6 (by decide) (fun c1 => ?_) (fun c1 => ?_)
  · replace hR := if_n c1 hR
    refine lv_aload_n hx hb d_Model_invoke_15 rfl (lv_at hl 0 rfl) ?_
    refine rd_Model_39 hx hb hT hown hK hP d_Model_invoke_16 ?_
    refine lv_iload_n hx hb d_Model_invoke_19 rfl (lv_at hl 1 rfl) ?_
    replace hR := gd_e hR
    obtain ⟨b2, hR⟩ := hR
    refine laM_8 hx hb hK hP b2 d_Model_invoke_20 ?_
    refine lv_topi (fun z3 e3 => ?_)
    replace hR := vK_e e3 hR
    refine lv_istore_n (lv' := [(3, .int z3), (0, .ref (ad 0)), (1, .int p1), (2, .int p2)]) hx hb d_Model_invoke_21 rfl hl (by decide) rfl (fun ls hl => ?_)
    refine lv_bipush (v := 12) hx hb d_Model_invoke_22 (by decide) ?_
    refine lv_aload_n hx hb d_Model_invoke_24 rfl (lv_at hl 1 rfl) ?_
    refine rd_Model_808 hx hb hT hown hK hP d_Model_invoke_25 ?_
    refine lv_imul hx hb d_Model_invoke_28 ?_
    refine lv_topi (fun z4 e4 => ?_)
    replace hR := vK_e e4 hR
    refine lv_istore (lv' := [(4, .int z4), (3, .int z3), (0, .ref (ad 0)), (1, .int p1), (2, .int p2)]) hx hb d_Model_invoke_29 hl (by decide) rfl (fun ls hl => ?_)
    refine lv_iconst (v := 0) hx hb d_Model_invoke_31 (by decide) ?_
    refine lv_istore (lv' := [(5, .int (0 : Int32)), (4, .int z4), (3, .int z3), (0, .ref (ad 0)), (1, .int p1), (2, .int p2)]) hx hb d_Model_invoke_32 hl (by decide) rfl (fun ls hl => ?_)
    have g := lb_34 nf T0 p1 p2 z3 z4 (0 : Int32) hR
    rw [hG] at g
    exact g _ _ hP hD hS _ (lv_sub hl [3, 4, 5, 2, 1, 0] rfl)
  · replace hR := if_p c1 hR
    refine lv_aload_n hx hb d_Model_invoke_9 rfl (lv_at hl 0 rfl) ?_
    refine lv_iconst (v := 5) hx hb d_Model_invoke_10 (by decide) ?_
    refine wr_Model_802 hx hb hT hown hK hP hD hS d_Model_invoke_11 (fun T5 eT H locs hP hD hS => ?_)
    replace hR := stK_e eT hR
    clear eT
    obtain ⟨-, -, e3⟩ := re_e hR
    subst e3
    exact W.vret hx hb hr (fun t ht hW => ⟨⟨(), rfl, trivial, by rw [ht]; exact hP, va_K.moved hW.alike hK, hD⟩, hS.F ht⟩) hS.2.2 d_Model_invoke_14
set_option maxHeartbeats 4000000 in
set_option maxRecDepth 100000 in
theorem sp_Model_back (l : Launch) (dC : Nat → ClassId) (dI : Nat → Nat → Nat) (ea ev ad : Nat → Nat) (km : Nat → ClassId) (F : gF) (nf d : Nat) (h_Model_shrink : mt_Model_shrink l dC dI ea ev ad km F d) (T0 : gSt) (r0 : Int32) (rl0 : Int64) (T9 : gSt) (hR : rb_Model_back F nf T0 = some (r0, rl0, T9)) : GMv l dC dI LM ad km ea ev y_Model_back w_Model_back (rmD (d + 1)) [.ref (ad 0)] T0 T9 := by
  intro sz
  refine Met.ofW (cc := b_Model_back) (maxL := 1) (ret := none) (by decide) rfl ?_
  intro p e s m args below meth c s₁ B hml hv
  obtain ⟨rfl, hsz, hP, hK, hD0, hnw, henv⟩ := hv
  have hx := B.exec
  have hb := B.bytes
  have hr := B.returns
  have hT : ∀ w ∈ lw_good, w.before _ s = true := fun w h => atoms_spec (ws := w_Model_back) B.pre w (List.mem_cons_of_mem _ h)
  have hown : s.vm.findClass R_Model = some m.cls := findClass_of_methodNamed B.named
  subst hsz
  have hD := hD0.self (sz := s.heap.size)
  clear hD0
  generalize hAe : va_A (gW LM ad km T0) s.heap.size = A at hD henv ⊢
  have hA : ∀ q : Nat, s.heap.size ≤ q → A q := fun q h => by rw [← hAe]; exact Or.inr h
  have hS : va_S A s.heap s.heap [] := va_S.rf
  have hl := lv_entry ([.ref (ad 0)]) (n := 1) (Nat.le_of_ble_eq_true rfl)
  rw [lg_entry_eq]
  generalize (lg_sl ([.ref (ad 0)]) ++ List.replicate (1 - (lg_sl ([.ref (ad 0)])).length) Slot.unset).toArray = ls at hl ⊢
  have hl : lv_has ls 1 [(0, .ref (ad 0))] := hl
  obtain ⟨G, hG⟩ : ∃ G : Nat → List (Nat × Value) → List Value → gSt → Prop, G = (fun pc lv stk T => ∀ (H : Heap) (locs : List Loc), va_P (dC, dI) cls_all (gW LM ad km T) H → va_D A (gW LM ad km T) → va_S A s.heap H locs → ∀ (ls : Array Slot), lv_has ls 1 lv → W p l e (headSpec w_Model_back (rmD (d + 1))).room s m ([.ref (ad 0)] : List Value).toArray below meth c H locs 0 0 (MQ below (va_Qv (fun (_ : Unit) => True) (fun _ t => gPost dC dI LM ad km T9 A t) A) ([.ref (ad 0)] : List Value).toArray s 0 0 A) (F0 m pc ls stk)) := ⟨_, rfl⟩
  have lb_48 : ∀ (T : gSt), rj_Model_back_48 F nf T = some (r0, rl0, T9) → G 48 [(0, .ref (ad 0))] [] T := by
    intro T hR; unfold rj_Model_back_48 at hR; rw [hG]; intro H locs hP hD hS ls hl
    refine lv_aload_n hx hb d_Model_back_48 rfl (lv_at hl 0 rfl) ?_
    refine lv_aload_n hx hb d_Model_back_49 rfl (lv_at hl 0 rfl) ?_
    refine rd_Model_225 hx hb hT hown hK hP d_Model_back_50 ?_
    refine lv_aload_n hx hb d_Model_back_53 rfl (lv_at hl 0 rfl) ?_
    refine rd_Model_808 hx hb hT hown hK hP d_Model_back_54 ?_
    replace hR := gd_e hR
    obtain ⟨b6, hR⟩ := hR
    refine laM_70 hx hb hK hP b6 d_Model_back_57 ?_
    replace hR := bi_e hR
    obtain ⟨r7, l7, T7, hc7, hR⟩ := hR
    refine gcV_v (rest := []) ⟨hx, hb, hml, hown, hT⟩ (h_Model_shrink _ _ _ _ _ hc7) (cwV 1 hT (gV ml_Model_860 im_Model_shrink se_Model_shrink ini_Model co_Model_shrink) rfl rfl rfl pd_Model_shrink ⟨rm_hi, rm_lo (Nat.le_of_ble_eq_true rfl)⟩) hK hP hD hS hA hnw henv (Nat.le_of_ble_eq_true rfl) rfl rfl hl.1 rfl (Nat.le_of_ble_eq_true rfl) d_Model_back_58 ⟨Nat.le_refl _, Nat.le_refl _⟩ (fun H locs hP hD hS => ?_)
    clear hc7
    refine lv_aload_n hx hb d_Model_back_61 rfl (lv_at hl 0 rfl) ?_
    refine rd_Model_808 hx hb hT hown hK hP d_Model_back_62 ?_
    refine lv_if_ne (tgt := 74) hx hb d_Model_back_65 (by decide) (fun c8 => ?_) (fun c8 => ?_)
    · replace hR := if_n c8 hR
      refine lv_aload_n hx hb d_Model_back_74 rfl (lv_at hl 0 rfl) ?_
      refine lv_aload_n hx hb d_Model_back_75 rfl (lv_at hl 0 rfl) ?_
      refine rd_Model_219 hx hb hT hown hK hP d_Model_back_76 ?_
      refine lv_aload_n hx hb d_Model_back_79 rfl (lv_at hl 0 rfl) ?_
      refine rd_Model_808 hx hb hT hown hK hP d_Model_back_80 ?_
      replace hR := gd_e hR
      obtain ⟨b9, hR⟩ := hR
      refine laM_68 hx hb hK hP b9 d_Model_back_83 ?_
      refine wr_Model_863 hx hb hT hown hK hP hD hS d_Model_back_84 (fun T10 eT H locs hP hD hS => ?_)
      replace hR := stK_e eT hR
      clear eT
      obtain ⟨-, -, e3⟩ := re_e hR
      subst e3
      exact W.vret hx hb hr (fun t ht hW => ⟨⟨(), rfl, trivial, by rw [ht]; exact hP, va_K.moved hW.alike hK, hD⟩, hS.F ht⟩) hS.2.2 d_Model_back_87
    · replace hR := if_p c8 hR
      refine lv_aload_n hx hb d_Model_back_68 rfl (lv_at hl 0 rfl) ?_
      refine lv_iconst (v := 2) hx hb d_Model_back_69 (by decide) ?_
      refine wr_Model_802 hx hb hT hown hK hP hD hS d_Model_back_70 (fun T11 eT H locs hP hD hS => ?_)
      replace hR := stK_e eT hR
      clear eT
      obtain ⟨-, -, e3⟩ := re_e hR
      subst e3
      exact W.vret hx hb hr (fun t ht hW => ⟨⟨(), rfl, trivial, by rw [ht]; exact hP, va_K.moved hW.alike hK, hD⟩, hS.F ht⟩) hS.2.2 d_Model_back_73
  have lb_10 : ∀ (n : Nat) (T : gSt), rl_Model_back_10 F nf n T = some (r0, rl0, T9) → G 10 [(0, .ref (ad 0))] [] T := by
    intro n
    induction n with
    | zero => intro T hR; rw [rl_Model_back_10] at hR; cases hR
    | succ n ih =>
      intro T hR; rw [rl_Model_back_10] at hR; rw [hG]; intro H locs hP hD hS ls hl
      refine lv_aload_n hx hb d_Model_back_10 rfl (lv_at hl 0 rfl) ?_
      refine rd_Model_832 hx hb hT hown hK hP d_Model_back_11 ?_
      refine lv_if_le (tgt := 48) hx hb d_Model_back_14 (by decide) (fun c2 => ?_) (fun c2 => ?_)
      · replace hR := if_p c2 hR
        have g := lb_48 T hR
        rw [hG] at g
        exact g _ _ hP hD hS _ (lv_sub hl [0] rfl)
      · replace hR := if_n c2 hR
        refine lv_aload_n hx hb d_Model_back_17 rfl (lv_at hl 0 rfl) ?_
        refine rd_Model_249 hx hb hT hown hK hP d_Model_back_18 ?_
        refine lv_aload_n hx hb d_Model_back_21 rfl (lv_at hl 0 rfl) ?_
        refine rd_Model_832 hx hb hT hown hK hP d_Model_back_22 ?_
        refine lv_iconst (v := 1) hx hb d_Model_back_25 (by decide) ?_
        refine lv_isub hx hb d_Model_back_26 ?_
        replace hR := gd_e hR
        obtain ⟨b3, hR⟩ := hR
        refine laM_78 hx hb hK hP b3 d_Model_back_27 ?_
        refine lv_aload_n hx hb d_Model_back_28 rfl (lv_at hl 0 rfl) ?_
        refine rd_Model_808 hx hb hT hown hK hP d_Model_back_29 ?_
        refine lv_icmp_le (tgt := 48) hx hb d_Model_back_32 (by decide) (fun c4 => ?_) (fun c4 => ?_)
        · replace hR := if_p c4 hR
          have g := lb_48 T hR
          rw [hG] at g
          exact g _ _ hP hD hS _ (lv_sub hl [0] rfl)
        · replace hR := if_n c4 hR
          refine lv_aload_n hx hb d_Model_back_35 rfl (lv_at hl 0 rfl) ?_
          refine lv_dup hx hb d_Model_back_36 rfl ?_
          refine rd_Model_832 hx hb hT hown hK hP d_Model_back_37 ?_
          refine lv_iconst (v := 1) hx hb d_Model_back_40 (by decide) ?_
          refine lv_isub hx hb d_Model_back_41 ?_
          refine wr_Model_832 hx hb hT hown hK hP hD hS d_Model_back_42 (fun T5 eT H locs hP hD hS => ?_)
          replace hR := stK_e eT hR
          clear eT
          refine lv_goto (tgt := 10) hx hb d_Model_back_45 (by decide) ?_
          have g := ih T5 hR
          rw [hG] at g
          exact g _ _ hP hD hS _ (lv_sub hl [0] rfl)
  unfold rb_Model_back at hR
  refine lv_aload_n hx hb d_Model_back_0 rfl (lv_at hl 0 rfl) ?_
  refine lv_dup hx hb d_Model_back_1 rfl ?_
  refine rd_Model_808 hx hb hT hown hK hP d_Model_back_2 ?_
  refine lv_iconst (v := 1) hx hb d_Model_back_5 (by decide) ?_
  refine lv_isub hx hb d_Model_back_6 ?_
  refine wr_Model_808 hx hb hT hown hK hP hD hS d_Model_back_7 (fun T1 eT H locs hP hD hS => ?_)
  replace hR := stK_e eT hR
  clear eT
  have g := lb_10 nf T1 hR
  rw [hG] at g
  exact g _ _ hP hD hS _ (lv_sub hl [0] rfl)
