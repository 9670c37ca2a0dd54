abbrev b_Model_checkFun : ByteArray := prog_14_method_68_code
abbrev y_Model_checkFun : MethodName := ⟨R_Model, "checkFun", "(I)V"⟩
theorem co_Model_checkFun : Cond.code y_Model_checkFun b_Model_checkFun 5 none ∈ lw_good := lg_in (tin_11 _ (List.mem_of_getElem? (i := 128) rfl)) rfl
abbrev w_Model_checkFun : List Cond := Cond.code y_Model_checkFun b_Model_checkFun 5 none :: lw_good
theorem im_Model_checkFun : Cond.instanceMethod y_Model_checkFun ∈ lw_good := lg_right (i := 2527) (by decide +kernel) rfl
theorem se_Model_checkFun : Cond.selects R_Model y_Model_checkFun y_Model_checkFun ∈ lw_good := lg_left (i := 160) (by decide +kernel) rfl
theorem d_Model_checkFun_0 : decode b_Model_checkFun 0 = .ok (.aload_n 0, 1) := by decide +kernel
theorem d_Model_checkFun_1 : decode b_Model_checkFun 1 = .ok (.iload_n 1, 1) := by decide +kernel
theorem d_Model_checkFun_2 : decode b_Model_checkFun 2 = .ok (.putfield 433, 3) := by decide +kernel
theorem d_Model_checkFun_5 : decode b_Model_checkFun 5 = .ok (.aload_n 0, 1) := by decide +kernel
theorem d_Model_checkFun_6 : decode b_Model_checkFun 6 = .ok (.iload_n 1, 1) := by decide +kernel
theorem d_Model_checkFun_7 : decode b_Model_checkFun 7 = .ok (.invokevirtual 609, 3) := by decide +kernel
theorem d_Model_checkFun_10 : decode b_Model_checkFun 10 = .ok (.aload_n 0, 1) := by decide +kernel
theorem d_Model_checkFun_11 : decode b_Model_checkFun 11 = .ok (.bipush 15, 2) := by decide +kernel
theorem d_Model_checkFun_13 : decode b_Model_checkFun 13 = .ok (.iconst 3, 1) := by decide +kernel
theorem d_Model_checkFun_14 : decode b_Model_checkFun 14 = .ok (.aload_n 0, 1) := by decide +kernel
theorem d_Model_checkFun_15 : decode b_Model_checkFun 15 = .ok (.getfield 27, 3) := by decide +kernel
theorem d_Model_checkFun_18 : decode b_Model_checkFun 18 = .ok (.iload_n 1, 1) := by decide +kernel
theorem d_Model_checkFun_19 : decode b_Model_checkFun 19 = .ok (.iaload, 1) := by decide +kernel
theorem d_Model_checkFun_20 : decode b_Model_checkFun 20 = .ok (.isub, 1) := by decide +kernel
theorem d_Model_checkFun_21 : decode b_Model_checkFun 21 = .ok (.ishr, 1) := by decide +kernel
theorem d_Model_checkFun_22 : decode b_Model_checkFun 22 = .ok (.aload_n 0, 1) := by decide +kernel
theorem d_Model_checkFun_23 : decode b_Model_checkFun 23 = .ok (.getfield 69, 3) := by decide +kernel
theorem d_Model_checkFun_26 : decode b_Model_checkFun 26 = .ok (.iload_n 1, 1) := by decide +kernel
theorem d_Model_checkFun_27 : decode b_Model_checkFun 27 = .ok (.iaload, 1) := by decide +kernel
theorem d_Model_checkFun_28 : decode b_Model_checkFun 28 = .ok (.iconst (-1), 1) := by decide +kernel
theorem d_Model_checkFun_29 : decode b_Model_checkFun 29 = .ok (.ixor, 1) := by decide +kernel
theorem d_Model_checkFun_30 : decode b_Model_checkFun 30 = .ok (.iand, 1) := by decide +kernel
theorem d_Model_checkFun_31 : decode b_Model_checkFun 31 = .ok (.putfield 575, 3) := by decide +kernel
theorem d_Model_checkFun_34 : decode b_Model_checkFun 34 = .ok (.aload_n 0, 1) := by decide +kernel
theorem d_Model_checkFun_35 : decode b_Model_checkFun 35 = .ok (.iconst 0, 1) := by decide +kernel
theorem d_Model_checkFun_36 : decode b_Model_checkFun 36 = .ok (.putfield 593, 3) := by decide +kernel
theorem d_Model_checkFun_39 : decode b_Model_checkFun 39 = .ok (.iconst 0, 1) := by decide +kernel
theorem d_Model_checkFun_40 : decode b_Model_checkFun 40 = .ok (.istore_n 2, 1) := by decide +kernel
theorem d_Model_checkFun_41 : decode b_Model_checkFun 41 = .ok (.iload_n 2, 1) := by decide +kernel
theorem d_Model_checkFun_42 : decode b_Model_checkFun 42 = .ok (.aload_n 0, 1) := by decide +kernel
theorem d_Model_checkFun_43 : decode b_Model_checkFun 43 = .ok (.getfield 72, 3) := by decide +kernel
theorem d_Model_checkFun_46 : decode b_Model_checkFun 46 = .ok (.iload_n 1, 1) := by decide +kernel
theorem d_Model_checkFun_47 : decode b_Model_checkFun 47 = .ok (.iaload, 1) := by decide +kernel
theorem d_Model_checkFun_48 : decode b_Model_checkFun 48 = .ok (.if_icmp .ge 61, 3) := by decide +kernel
theorem d_Model_checkFun_51 : decode b_Model_checkFun 51 = .ok (.aload_n 0, 1) := by decide +kernel
theorem d_Model_checkFun_52 : decode b_Model_checkFun 52 = .ok (.dup, 1) := by decide +kernel
theorem d_Model_checkFun_53 : decode b_Model_checkFun 53 = .ok (.getfield 593, 3) := by decide +kernel
theorem d_Model_checkFun_56 : decode b_Model_checkFun 56 = .ok (.iconst 1, 1) := by decide +kernel
theorem d_Model_checkFun_57 : decode b_Model_checkFun 57 = .ok (.iconst 4, 1) := by decide +kernel
theorem d_Model_checkFun_58 : decode b_Model_checkFun 58 = .ok (.aload_n 0, 1) := by decide +kernel
theorem d_Model_checkFun_59 : decode b_Model_checkFun 59 = .ok (.iload_n 1, 1) := by decide +kernel
theorem d_Model_checkFun_60 : decode b_Model_checkFun 60 = .ok (.aload_n 0, 1) := by decide +kernel
theorem d_Model_checkFun_61 : decode b_Model_checkFun 61 = .ok (.getfield 75, 3) := by decide +kernel
theorem d_Model_checkFun_64 : decode b_Model_checkFun 64 = .ok (.bipush 6, 2) := by decide +kernel
theorem d_Model_checkFun_66 : decode b_Model_checkFun 66 = .ok (.iload_n 1, 1) := by decide +kernel
theorem d_Model_checkFun_67 : decode b_Model_checkFun 67 = .ok (.imul, 1) := by decide +kernel
theorem d_Model_checkFun_68 : decode b_Model_checkFun 68 = .ok (.iconst 2, 1) := by decide +kernel
theorem d_Model_checkFun_69 : decode b_Model_checkFun 69 = .ok (.iload_n 2, 1) := by decide +kernel
theorem d_Model_checkFun_70 : decode b_Model_checkFun 70 = .ok (.imul, 1) := by decide +kernel
theorem d_Model_checkFun_71 : decode b_Model_checkFun 71 = .ok (.iadd, 1) := by decide +kernel
theorem d_Model_checkFun_72 : decode b_Model_checkFun 72 = .ok (.laload, 1) := by decide +kernel
theorem d_Model_checkFun_73 : decode b_Model_checkFun 73 = .ok (.invokevirtual 616, 3) := by decide +kernel
theorem d_Model_checkFun_76 : decode b_Model_checkFun 76 = .ok (.imul, 1) := by decide +kernel
theorem d_Model_checkFun_77 : decode b_Model_checkFun 77 = .ok (.aload_n 0, 1) := by decide +kernel
theorem d_Model_checkFun_78 : decode b_Model_checkFun 78 = .ok (.iload_n 1, 1) := by decide +kernel
theorem d_Model_checkFun_79 : decode b_Model_checkFun 79 = .ok (.aload_n 0, 1) := by decide +kernel
theorem d_Model_checkFun_80 : decode b_Model_checkFun 80 = .ok (.getfield 75, 3) := by decide +kernel
theorem d_Model_checkFun_83 : decode b_Model_checkFun 83 = .ok (.bipush 6, 2) := by decide +kernel
theorem d_Model_checkFun_85 : decode b_Model_checkFun 85 = .ok (.iload_n 1, 1) := by decide +kernel
theorem d_Model_checkFun_86 : decode b_Model_checkFun 86 = .ok (.imul, 1) := by decide +kernel
theorem d_Model_checkFun_87 : decode b_Model_checkFun 87 = .ok (.iconst 2, 1) := by decide +kernel
theorem d_Model_checkFun_88 : decode b_Model_checkFun 88 = .ok (.iload_n 2, 1) := by decide +kernel
theorem d_Model_checkFun_89 : decode b_Model_checkFun 89 = .ok (.imul, 1) := by decide +kernel
theorem d_Model_checkFun_90 : decode b_Model_checkFun 90 = .ok (.iadd, 1) := by decide +kernel
theorem d_Model_checkFun_91 : decode b_Model_checkFun 91 = .ok (.iconst 1, 1) := by decide +kernel
theorem d_Model_checkFun_92 : decode b_Model_checkFun 92 = .ok (.iadd, 1) := by decide +kernel
theorem d_Model_checkFun_93 : decode b_Model_checkFun 93 = .ok (.laload, 1) := by decide +kernel
theorem d_Model_checkFun_94 : decode b_Model_checkFun 94 = .ok (.invokevirtual 616, 3) := by decide +kernel
theorem d_Model_checkFun_97 : decode b_Model_checkFun 97 = .ok (.iadd, 1) := by decide +kernel
theorem d_Model_checkFun_98 : decode b_Model_checkFun 98 = .ok (.ishl, 1) := by decide +kernel
theorem d_Model_checkFun_99 : decode b_Model_checkFun 99 = .ok (.ior, 1) := by decide +kernel
theorem d_Model_checkFun_100 : decode b_Model_checkFun 100 = .ok (.putfield 593, 3) := by decide +kernel
theorem d_Model_checkFun_103 : decode b_Model_checkFun 103 = .ok (.iinc 2 1, 3) := by decide +kernel
theorem d_Model_checkFun_106 : decode b_Model_checkFun 106 = .ok (.goto (-65), 3) := by decide +kernel
theorem d_Model_checkFun_109 : decode b_Model_checkFun 109 = .ok (.iconst 1, 1) := by decide +kernel
theorem d_Model_checkFun_110 : decode b_Model_checkFun 110 = .ok (.istore_n 2, 1) := by decide +kernel
theorem d_Model_checkFun_111 : decode b_Model_checkFun 111 = .ok (.iload_n 2, 1) := by decide +kernel
theorem d_Model_checkFun_112 : decode b_Model_checkFun 112 = .ok (.iconst 4, 1) := by decide +kernel
theorem d_Model_checkFun_113 : decode b_Model_checkFun 113 = .ok (.if_icmp .ge 82, 3) := by decide +kernel
theorem d_Model_checkFun_116 : decode b_Model_checkFun 116 = .ok (.iconst 1, 1) := by decide +kernel
theorem d_Model_checkFun_117 : decode b_Model_checkFun 117 = .ok (.istore_n 3, 1) := by decide +kernel
theorem d_Model_checkFun_118 : decode b_Model_checkFun 118 = .ok (.iload_n 3, 1) := by decide +kernel
theorem d_Model_checkFun_119 : decode b_Model_checkFun 119 = .ok (.iconst 4, 1) := by decide +kernel
theorem d_Model_checkFun_120 : decode b_Model_checkFun 120 = .ok (.if_icmp .ge 69, 3) := by decide +kernel
theorem d_Model_checkFun_123 : decode b_Model_checkFun 123 = .ok (.iconst 1, 1) := by decide +kernel
theorem d_Model_checkFun_124 : decode b_Model_checkFun 124 = .ok (.istore 4, 2) := by decide +kernel
theorem d_Model_checkFun_126 : decode b_Model_checkFun 126 = .ok (.iload 4, 2) := by decide +kernel
theorem d_Model_checkFun_128 : decode b_Model_checkFun 128 = .ok (.iconst 4, 1) := by decide +kernel
theorem d_Model_checkFun_129 : decode b_Model_checkFun 129 = .ok (.if_icmp .ge 54, 3) := by decide +kernel
theorem d_Model_checkFun_132 : decode b_Model_checkFun 132 = .ok (.aload_n 0, 1) := by decide +kernel
theorem d_Model_checkFun_133 : decode b_Model_checkFun 133 = .ok (.getfield 593, 3) := by decide +kernel
theorem d_Model_checkFun_136 : decode b_Model_checkFun 136 = .ok (.iconst 4, 1) := by decide +kernel
theorem d_Model_checkFun_137 : decode b_Model_checkFun 137 = .ok (.iload_n 3, 1) := by decide +kernel
theorem d_Model_checkFun_138 : decode b_Model_checkFun 138 = .ok (.imul, 1) := by decide +kernel
theorem d_Model_checkFun_139 : decode b_Model_checkFun 139 = .ok (.iload_n 2, 1) := by decide +kernel
theorem d_Model_checkFun_140 : decode b_Model_checkFun 140 = .ok (.iadd, 1) := by decide +kernel
theorem d_Model_checkFun_141 : decode b_Model_checkFun 141 = .ok (.ishr, 1) := by decide +kernel
theorem d_Model_checkFun_142 : decode b_Model_checkFun 142 = .ok (.aload_n 0, 1) := by decide +kernel
theorem d_Model_checkFun_143 : decode b_Model_checkFun 143 = .ok (.getfield 593, 3) := by decide +kernel
theorem d_Model_checkFun_146 : decode b_Model_checkFun 146 = .ok (.iconst 4, 1) := by decide +kernel
theorem d_Model_checkFun_147 : decode b_Model_checkFun 147 = .ok (.iload_n 2, 1) := by decide +kernel
theorem d_Model_checkFun_148 : decode b_Model_checkFun 148 = .ok (.imul, 1) := by decide +kernel
theorem d_Model_checkFun_149 : decode b_Model_checkFun 149 = .ok (.iload 4, 2) := by decide +kernel
theorem d_Model_checkFun_151 : decode b_Model_checkFun 151 = .ok (.iadd, 1) := by decide +kernel
theorem d_Model_checkFun_152 : decode b_Model_checkFun 152 = .ok (.ishr, 1) := by decide +kernel
theorem d_Model_checkFun_153 : decode b_Model_checkFun 153 = .ok (.iand, 1) := by decide +kernel
theorem d_Model_checkFun_154 : decode b_Model_checkFun 154 = .ok (.iconst 1, 1) := by decide +kernel
theorem d_Model_checkFun_155 : decode b_Model_checkFun 155 = .ok (.iand, 1) := by decide +kernel
theorem d_Model_checkFun_156 : decode b_Model_checkFun 156 = .ok (.iconst 1, 1) := by decide +kernel
theorem d_Model_checkFun_157 : decode b_Model_checkFun 157 = .ok (.if_icmp .ne 20, 3) := by decide +kernel
theorem d_Model_checkFun_160 : decode b_Model_checkFun 160 = .ok (.aload_n 0, 1) := by decide +kernel
theorem d_Model_checkFun_161 : decode b_Model_checkFun 161 = .ok (.dup, 1) := by decide +kernel
theorem d_Model_checkFun_162 : decode b_Model_checkFun 162 = .ok (.getfield 593, 3) := by decide +kernel
theorem d_Model_checkFun_165 : decode b_Model_checkFun 165 = .ok (.iconst 1, 1) := by decide +kernel
theorem d_Model_checkFun_166 : decode b_Model_checkFun 166 = .ok (.iconst 4, 1) := by decide +kernel
theorem d_Model_checkFun_167 : decode b_Model_checkFun 167 = .ok (.iload_n 3, 1) := by decide +kernel
theorem d_Model_checkFun_168 : decode b_Model_checkFun 168 = .ok (.imul, 1) := by decide +kernel
theorem d_Model_checkFun_169 : decode b_Model_checkFun 169 = .ok (.iload 4, 2) := by decide +kernel
theorem d_Model_checkFun_171 : decode b_Model_checkFun 171 = .ok (.iadd, 1) := by decide +kernel
theorem d_Model_checkFun_172 : decode b_Model_checkFun 172 = .ok (.ishl, 1) := by decide +kernel
theorem d_Model_checkFun_173 : decode b_Model_checkFun 173 = .ok (.ior, 1) := by decide +kernel
theorem d_Model_checkFun_174 : decode b_Model_checkFun 174 = .ok (.putfield 593, 3) := by decide +kernel
theorem d_Model_checkFun_177 : decode b_Model_checkFun 177 = .ok (.iinc 4 1, 3) := by decide +kernel
theorem d_Model_checkFun_180 : decode b_Model_checkFun 180 = .ok (.goto (-54), 3) := by decide +kernel
theorem d_Model_checkFun_183 : decode b_Model_checkFun 183 = .ok (.iinc 3 1, 3) := by decide +kernel
theorem d_Model_checkFun_186 : decode b_Model_checkFun 186 = .ok (.goto (-68), 3) := by decide +kernel
theorem d_Model_checkFun_189 : decode b_Model_checkFun 189 = .ok (.iinc 2 1, 3) := by decide +kernel
theorem d_Model_checkFun_192 : decode b_Model_checkFun 192 = .ok (.goto (-81), 3) := by decide +kernel
theorem d_Model_checkFun_195 : decode b_Model_checkFun 195 = .ok (.aload_n 0, 1) := by decide +kernel
theorem d_Model_checkFun_196 : decode b_Model_checkFun 196 = .ok (.iconst 0, 1) := by decide +kernel
theorem d_Model_checkFun_197 : decode b_Model_checkFun 197 = .ok (.putfield 563, 3) := by decide +kernel
theorem d_Model_checkFun_200 : decode b_Model_checkFun 200 = .ok (.aload_n 0, 1) := by decide +kernel
theorem d_Model_checkFun_201 : decode b_Model_checkFun 201 = .ok (.iconst 0, 1) := by decide +kernel
theorem d_Model_checkFun_202 : decode b_Model_checkFun 202 = .ok (.putfield 624, 3) := by decide +kernel
theorem fl_Model_624 : Cond.fieldLink R_Model 624 "PointerHouseModel" "set" "I" ∈ lw_good := lg_right (i := 1900) (by decide +kernel) rfl
theorem d_Model_checkFun_205 : decode b_Model_checkFun 205 = .ok (.aload_n 0, 1) := by decide +kernel
theorem d_Model_checkFun_206 : decode b_Model_checkFun 206 = .ok (.iconst 0, 1) := by decide +kernel
theorem d_Model_checkFun_207 : decode b_Model_checkFun 207 = .ok (.putfield 627, 3) := by decide +kernel
theorem fl_Model_627 : Cond.fieldLink R_Model 627 "PointerHouseModel" "knownVars" "I" ∈ lw_good := lg_right (i := 1901) (by decide +kernel) rfl
theorem d_Model_checkFun_210 : decode b_Model_checkFun 210 = .ok (.aload_n 0, 1) := by decide +kernel
theorem d_Model_checkFun_211 : decode b_Model_checkFun 211 = .ok (.iconst 1, 1) := by decide +kernel
theorem d_Model_checkFun_212 : decode b_Model_checkFun 212 = .ok (.putfield 630, 3) := by decide +kernel
theorem fl_Model_630 : Cond.fieldLink R_Model 630 "PointerHouseModel" "reached" "Z" ∈ lw_good := lg_right (i := 1902) (by decide +kernel) rfl
theorem d_Model_checkFun_215 : decode b_Model_checkFun 215 = .ok (.aload_n 0, 1) := by decide +kernel
theorem d_Model_checkFun_216 : decode b_Model_checkFun 216 = .ok (.iconst 0, 1) := by decide +kernel
theorem d_Model_checkFun_217 : decode b_Model_checkFun 217 = .ok (.putfield 634, 3) := by decide +kernel
theorem fl_Model_634 : Cond.fieldLink R_Model 634 "PointerHouseModel" "arounds" "I" ∈ lw_good := lg_right (i := 1903) (by decide +kernel) rfl
theorem d_Model_checkFun_220 : decode b_Model_checkFun 220 = .ok (.aload_n 0, 1) := by decide +kernel
theorem d_Model_checkFun_221 : decode b_Model_checkFun 221 = .ok (.iconst 0, 1) := by decide +kernel
theorem d_Model_checkFun_222 : decode b_Model_checkFun 222 = .ok (.putfield 637, 3) := by decide +kernel
theorem fl_Model_637 : Cond.fieldLink R_Model 637 "PointerHouseModel" "stepsOfRegions" "I" ∈ lw_good := lg_right (i := 1905) (by decide +kernel) rfl
theorem d_Model_checkFun_225 : decode b_Model_checkFun 225 = .ok (.aload_n 0, 1) := by decide +kernel
theorem d_Model_checkFun_226 : decode b_Model_checkFun 226 = .ok (.iconst 0, 1) := by decide +kernel
theorem d_Model_checkFun_227 : decode b_Model_checkFun 227 = .ok (.putfield 640, 3) := by decide +kernel
theorem fl_Model_640 : Cond.fieldLink R_Model 640 "PointerHouseModel" "catches" "I" ∈ lw_good := lg_right (i := 1906) (by decide +kernel) rfl
theorem d_Model_checkFun_230 : decode b_Model_checkFun 230 = .ok (.iconst 0, 1) := by decide +kernel
theorem d_Model_checkFun_231 : decode b_Model_checkFun 231 = .ok (.istore_n 2, 1) := by decide +kernel
theorem d_Model_checkFun_232 : decode b_Model_checkFun 232 = .ok (.iload_n 2, 1) := by decide +kernel
theorem d_Model_checkFun_233 : decode b_Model_checkFun 233 = .ok (.aload_n 0, 1) := by decide +kernel
theorem d_Model_checkFun_234 : decode b_Model_checkFun 234 = .ok (.getfield 39, 3) := by decide +kernel
theorem d_Model_checkFun_237 : decode b_Model_checkFun 237 = .ok (.iload_n 1, 1) := by decide +kernel
theorem d_Model_checkFun_238 : decode b_Model_checkFun 238 = .ok (.iaload, 1) := by decide +kernel
theorem d_Model_checkFun_239 : decode b_Model_checkFun 239 = .ok (.if_icmp .ge 52, 3) := by decide +kernel
theorem d_Model_checkFun_242 : decode b_Model_checkFun 242 = .ok (.aload_n 0, 1) := by decide +kernel
theorem d_Model_checkFun_243 : decode b_Model_checkFun 243 = .ok (.aload_n 0, 1) := by decide +kernel
theorem d_Model_checkFun_244 : decode b_Model_checkFun 244 = .ok (.getfield 42, 3) := by decide +kernel
theorem d_Model_checkFun_247 : decode b_Model_checkFun 247 = .ok (.aload_n 0, 1) := by decide +kernel
theorem d_Model_checkFun_248 : decode b_Model_checkFun 248 = .ok (.getfield 36, 3) := by decide +kernel
theorem d_Model_checkFun_251 : decode b_Model_checkFun 251 = .ok (.iload_n 1, 1) := by decide +kernel
theorem d_Model_checkFun_252 : decode b_Model_checkFun 252 = .ok (.iaload, 1) := by decide +kernel
theorem d_Model_checkFun_253 : decode b_Model_checkFun 253 = .ok (.iload_n 2, 1) := by decide +kernel
theorem d_Model_checkFun_254 : decode b_Model_checkFun 254 = .ok (.iadd, 1) := by decide +kernel
theorem d_Model_checkFun_255 : decode b_Model_checkFun 255 = .ok (.laload, 1) := by decide +kernel
theorem d_Model_checkFun_256 : decode b_Model_checkFun 256 = .ok (.iload_n 2, 1) := by decide +kernel
theorem d_Model_checkFun_257 : decode b_Model_checkFun 257 = .ok (.aload_n 0, 1) := by decide +kernel
theorem d_Model_checkFun_258 : decode b_Model_checkFun 258 = .ok (.getfield 51, 3) := by decide +kernel
theorem d_Model_checkFun_261 : decode b_Model_checkFun 261 = .ok (.aload_n 0, 1) := by decide +kernel
theorem d_Model_checkFun_262 : decode b_Model_checkFun 262 = .ok (.getfield 36, 3) := by decide +kernel
theorem d_Model_checkFun_265 : decode b_Model_checkFun 265 = .ok (.iload_n 1, 1) := by decide +kernel
theorem d_Model_checkFun_266 : decode b_Model_checkFun 266 = .ok (.iaload, 1) := by decide +kernel
theorem d_Model_checkFun_267 : decode b_Model_checkFun 267 = .ok (.iload_n 2, 1) := by decide +kernel
theorem d_Model_checkFun_268 : decode b_Model_checkFun 268 = .ok (.iadd, 1) := by decide +kernel
theorem d_Model_checkFun_269 : decode b_Model_checkFun 269 = .ok (.iaload, 1) := by decide +kernel
theorem d_Model_checkFun_270 : decode b_Model_checkFun 270 = .ok (.invokevirtual 643, 3) := by decide +kernel
theorem ml_Model_643 : Cond.methodLink R_Model 643 ⟨"PointerHouseModel", "see", "(JII)V"⟩ ∈ lw_good := lg_right (i := 2529) (by decide +kernel) rfl
theorem d_Model_checkFun_273 : decode b_Model_checkFun 273 = .ok (.aload_n 0, 1) := by decide +kernel
theorem d_Model_checkFun_274 : decode b_Model_checkFun 274 = .ok (.dup, 1) := by decide +kernel
theorem d_Model_checkFun_275 : decode b_Model_checkFun 275 = .ok (.getfield 624, 3) := by decide +kernel
theorem d_Model_checkFun_278 : decode b_Model_checkFun 278 = .ok (.iconst 1, 1) := by decide +kernel
theorem d_Model_checkFun_279 : decode b_Model_checkFun 279 = .ok (.iload_n 2, 1) := by decide +kernel
theorem d_Model_checkFun_280 : decode b_Model_checkFun 280 = .ok (.ishl, 1) := by decide +kernel
theorem d_Model_checkFun_281 : decode b_Model_checkFun 281 = .ok (.ior, 1) := by decide +kernel
theorem d_Model_checkFun_282 : decode b_Model_checkFun 282 = .ok (.putfield 624, 3) := by decide +kernel
theorem d_Model_checkFun_285 : decode b_Model_checkFun 285 = .ok (.iinc 2 1, 3) := by decide +kernel
theorem d_Model_checkFun_288 : decode b_Model_checkFun 288 = .ok (.goto (-56), 3) := by decide +kernel
theorem d_Model_checkFun_291 : decode b_Model_checkFun 291 = .ok (.aload_n 0, 1) := by decide +kernel
theorem d_Model_checkFun_292 : decode b_Model_checkFun 292 = .ok (.aload_n 0, 1) := by decide +kernel
theorem d_Model_checkFun_293 : decode b_Model_checkFun 293 = .ok (.getfield 81, 3) := by decide +kernel
theorem d_Model_checkFun_296 : decode b_Model_checkFun 296 = .ok (.iload_n 1, 1) := by decide +kernel
theorem d_Model_checkFun_297 : decode b_Model_checkFun 297 = .ok (.iaload, 1) := by decide +kernel
theorem d_Model_checkFun_298 : decode b_Model_checkFun 298 = .ok (.invokevirtual 646, 3) := by decide +kernel
theorem ml_Model_646 : Cond.methodLink R_Model 646 ⟨"PointerHouseModel", "checkBlock", "(I)V"⟩ ∈ lw_good := lg_right (i := 2533) (by decide +kernel) rfl
theorem d_Model_checkFun_301 : decode b_Model_checkFun 301 = .ok (.aload_n 0, 1) := by decide +kernel
theorem d_Model_checkFun_302 : decode b_Model_checkFun 302 = .ok (.invokevirtual 385, 3) := by decide +kernel
theorem d_Model_checkFun_305 : decode b_Model_checkFun 305 = .ok (.ifCond .ne 36, 3) := by decide +kernel
theorem d_Model_checkFun_308 : decode b_Model_checkFun 308 = .ok (.aload_n 0, 1) := by decide +kernel
theorem d_Model_checkFun_309 : decode b_Model_checkFun 309 = .ok (.getfield 54, 3) := by decide +kernel
theorem d_Model_checkFun_312 : decode b_Model_checkFun 312 = .ok (.iload_n 1, 1) := by decide +kernel
theorem d_Model_checkFun_313 : decode b_Model_checkFun 313 = .ok (.iaload, 1) := by decide +kernel
theorem d_Model_checkFun_314 : decode b_Model_checkFun 314 = .ok (.ifCond .lt 27, 3) := by decide +kernel
theorem d_Model_checkFun_317 : decode b_Model_checkFun 317 = .ok (.aload_n 0, 1) := by decide +kernel
theorem d_Model_checkFun_318 : decode b_Model_checkFun 318 = .ok (.getfield 630, 3) := by decide +kernel
theorem d_Model_checkFun_321 : decode b_Model_checkFun 321 = .ok (.ifCond .eq 20, 3) := by decide +kernel
theorem d_Model_checkFun_324 : decode b_Model_checkFun 324 = .ok (.aload_n 0, 1) := by decide +kernel
theorem d_Model_checkFun_325 : decode b_Model_checkFun 325 = .ok (.bipush 8, 2) := by decide +kernel
theorem d_Model_checkFun_327 : decode b_Model_checkFun 327 = .ok (.aload_n 0, 1) := by decide +kernel
theorem d_Model_checkFun_328 : decode b_Model_checkFun 328 = .ok (.getfield 141, 3) := by decide +kernel
theorem d_Model_checkFun_331 : decode b_Model_checkFun 331 = .ok (.aload_n 0, 1) := by decide +kernel
theorem d_Model_checkFun_332 : decode b_Model_checkFun 332 = .ok (.getfield 81, 3) := by decide +kernel
theorem d_Model_checkFun_335 : decode b_Model_checkFun 335 = .ok (.iload_n 1, 1) := by decide +kernel
theorem d_Model_checkFun_336 : decode b_Model_checkFun 336 = .ok (.iaload, 1) := by decide +kernel
theorem d_Model_checkFun_337 : decode b_Model_checkFun 337 = .ok (.iaload, 1) := by decide +kernel
theorem d_Model_checkFun_338 : decode b_Model_checkFun 338 = .ok (.invokevirtual 381, 3) := by decide +kernel
theorem d_Model_checkFun_341 : decode b_Model_checkFun 341 = .ok (.return_, 1) := by decide +kernel
abbrev b_Model_checkBlock : ByteArray := prog_14_method_71_code
abbrev y_Model_checkBlock : MethodName := ⟨R_Model, "checkBlock", "(I)V"⟩
theorem co_Model_checkBlock : Cond.code y_Model_checkBlock b_Model_checkBlock 4 none ∈ lw_good := lg_in (tin_11 _ (List.mem_of_getElem? (i := 136) rfl)) rfl
abbrev w_Model_checkBlock : List Cond := Cond.code y_Model_checkBlock b_Model_checkBlock 4 none :: lw_good
theorem im_Model_checkBlock : Cond.instanceMethod y_Model_checkBlock ∈ lw_good := lg_right (i := 2535) (by decide +kernel) rfl
theorem se_Model_checkBlock : Cond.selects R_Model y_Model_checkBlock y_Model_checkBlock ∈ lw_good := lg_left (i := 162) (by decide +kernel) rfl
theorem d_Model_checkBlock_0 : decode b_Model_checkBlock 0 = .ok (.aload_n 0, 1) := by decide +kernel
theorem d_Model_checkBlock_1 : decode b_Model_checkBlock 1 = .ok (.getfield 563, 3) := by decide +kernel
theorem d_Model_checkBlock_4 : decode b_Model_checkBlock 4 = .ok (.istore_n 2, 1) := by decide +kernel
theorem d_Model_checkBlock_5 : decode b_Model_checkBlock 5 = .ok (.aload_n 0, 1) := by decide +kernel
theorem d_Model_checkBlock_6 : decode b_Model_checkBlock 6 = .ok (.getfield 126, 3) := by decide +kernel
theorem d_Model_checkBlock_9 : decode b_Model_checkBlock 9 = .ok (.iload_n 1, 1) := by decide +kernel
theorem d_Model_checkBlock_10 : decode b_Model_checkBlock 10 = .ok (.iaload, 1) := by decide +kernel
theorem d_Model_checkBlock_11 : decode b_Model_checkBlock 11 = .ok (.istore_n 3, 1) := by decide +kernel
theorem d_Model_checkBlock_12 : decode b_Model_checkBlock 12 = .ok (.iload_n 3, 1) := by decide +kernel
theorem d_Model_checkBlock_13 : decode b_Model_checkBlock 13 = .ok (.ifCond .lt 25, 3) := by decide +kernel
theorem d_Model_checkBlock_16 : decode b_Model_checkBlock 16 = .ok (.aload_n 0, 1) := by decide +kernel
theorem d_Model_checkBlock_17 : decode b_Model_checkBlock 17 = .ok (.invokevirtual 385, 3) := by decide +kernel
theorem d_Model_checkBlock_20 : decode b_Model_checkBlock 20 = .ok (.ifCond .ne 18, 3) := by decide +kernel
theorem d_Model_checkBlock_23 : decode b_Model_checkBlock 23 = .ok (.aload_n 0, 1) := by decide +kernel
theorem d_Model_checkBlock_24 : decode b_Model_checkBlock 24 = .ok (.iload_n 3, 1) := by decide +kernel
theorem d_Model_checkBlock_25 : decode b_Model_checkBlock 25 = .ok (.invokevirtual 649, 3) := by decide +kernel
theorem ml_Model_649 : Cond.methodLink R_Model 649 ⟨"PointerHouseModel", "checkStep", "(I)V"⟩ ∈ lw_good := lg_right (i := 2537) (by decide +kernel) rfl
theorem d_Model_checkBlock_28 : decode b_Model_checkBlock 28 = .ok (.aload_n 0, 1) := by decide +kernel
theorem d_Model_checkBlock_29 : decode b_Model_checkBlock 29 = .ok (.getfield 135, 3) := by decide +kernel
theorem d_Model_checkBlock_32 : decode b_Model_checkBlock 32 = .ok (.iload_n 3, 1) := by decide +kernel
theorem d_Model_checkBlock_33 : decode b_Model_checkBlock 33 = .ok (.iaload, 1) := by decide +kernel
theorem d_Model_checkBlock_34 : decode b_Model_checkBlock 34 = .ok (.istore_n 3, 1) := by decide +kernel
theorem d_Model_checkBlock_35 : decode b_Model_checkBlock 35 = .ok (.goto (-23), 3) := by decide +kernel
theorem d_Model_checkBlock_38 : decode b_Model_checkBlock 38 = .ok (.aload_n 0, 1) := by decide +kernel
theorem d_Model_checkBlock_39 : decode b_Model_checkBlock 39 = .ok (.iload_n 2, 1) := by decide +kernel
theorem d_Model_checkBlock_40 : decode b_Model_checkBlock 40 = .ok (.putfield 563, 3) := by decide +kernel
theorem d_Model_checkBlock_43 : decode b_Model_checkBlock 43 = .ok (.return_, 1) := by decide +kernel
abbrev b_Model_see_JII : ByteArray := prog_14_method_69_code
abbrev y_Model_see_JII : MethodName := ⟨R_Model, "see", "(JII)V"⟩
theorem co_Model_see_JII : Cond.code y_Model_see_JII b_Model_see_JII 5 none ∈ lw_good := lg_in (tin_11 _ (List.mem_of_getElem? (i := 132) rfl)) rfl
abbrev w_Model_see_JII : List Cond := Cond.code y_Model_see_JII b_Model_see_JII 5 none :: lw_good
theorem im_Model_see_JII : Cond.instanceMethod y_Model_see_JII ∈ lw_good := lg_right (i := 2531) (by decide +kernel) rfl
theorem se_Model_see_JII : Cond.selects R_Model y_Model_see_JII y_Model_see_JII ∈ lw_good := lg_left (i := 161) (by decide +kernel) rfl
theorem d_Model_see_JII_0 : decode b_Model_see_JII 0 = .ok (.aload_n 0, 1) := by decide +kernel
theorem d_Model_see_JII_1 : decode b_Model_see_JII 1 = .ok (.getfield 180, 3) := by decide +kernel
theorem d_Model_see_JII_4 : decode b_Model_see_JII 4 = .ok (.aload_n 0, 1) := by decide +kernel
theorem d_Model_see_JII_5 : decode b_Model_see_JII 5 = .ok (.getfield 563, 3) := by decide +kernel
theorem d_Model_see_JII_8 : decode b_Model_see_JII 8 = .ok (.lload_n 1, 1) := by decide +kernel
theorem d_Model_see_JII_9 : decode b_Model_see_JII 9 = .ok (.lastore, 1) := by decide +kernel
theorem d_Model_see_JII_10 : decode b_Model_see_JII 10 = .ok (.aload_n 0, 1) := by decide +kernel
theorem d_Model_see_JII_11 : decode b_Model_see_JII 11 = .ok (.getfield 183, 3) := by decide +kernel
theorem fl_Model_183 : Cond.fieldLink R_Model 183 "PointerHouseModel" "varSlot" "[I" ∈ lw_good := lg_right (i := 1898) (by decide +kernel) rfl
theorem d_Model_see_JII_14 : decode b_Model_see_JII 14 = .ok (.aload_n 0, 1) := by decide +kernel
theorem d_Model_see_JII_15 : decode b_Model_see_JII 15 = .ok (.getfield 563, 3) := by decide +kernel
theorem d_Model_see_JII_18 : decode b_Model_see_JII 18 = .ok (.iload_n 3, 1) := by decide +kernel
theorem d_Model_see_JII_19 : decode b_Model_see_JII 19 = .ok (.iastore, 1) := by decide +kernel
theorem d_Model_see_JII_20 : decode b_Model_see_JII 20 = .ok (.aload_n 0, 1) := by decide +kernel
theorem d_Model_see_JII_21 : decode b_Model_see_JII 21 = .ok (.getfield 186, 3) := by decide +kernel
theorem fl_Model_186 : Cond.fieldLink R_Model 186 "PointerHouseModel" "varType" "[I" ∈ lw_good := lg_right (i := 1899) (by decide +kernel) rfl
theorem d_Model_see_JII_24 : decode b_Model_see_JII 24 = .ok (.aload_n 0, 1) := by decide +kernel
theorem d_Model_see_JII_25 : decode b_Model_see_JII 25 = .ok (.getfield 563, 3) := by decide +kernel
theorem d_Model_see_JII_28 : decode b_Model_see_JII 28 = .ok (.iload 4, 2) := by decide +kernel
theorem d_Model_see_JII_30 : decode b_Model_see_JII 30 = .ok (.iastore, 1) := by decide +kernel
theorem d_Model_see_JII_31 : decode b_Model_see_JII 31 = .ok (.aload_n 0, 1) := by decide +kernel
theorem d_Model_see_JII_32 : decode b_Model_see_JII 32 = .ok (.dup, 1) := by decide +kernel
theorem d_Model_see_JII_33 : decode b_Model_see_JII 33 = .ok (.getfield 563, 3) := by decide +kernel
theorem d_Model_see_JII_36 : decode b_Model_see_JII 36 = .ok (.iconst 1, 1) := by decide +kernel
theorem d_Model_see_JII_37 : decode b_Model_see_JII 37 = .ok (.iadd, 1) := by decide +kernel
theorem d_Model_see_JII_38 : decode b_Model_see_JII 38 = .ok (.putfield 563, 3) := by decide +kernel
theorem d_Model_see_JII_41 : decode b_Model_see_JII 41 = .ok (.return_, 1) := by decide +kernel
abbrev b_Model_stop : ByteArray := prog_14_method_70_code
abbrev y_Model_stop : MethodName := ⟨R_Model, "stop", "()V"⟩
theorem co_Model_stop : Cond.code y_Model_stop b_Model_stop 1 none ∈ lw_good := lg_in (tin_12 _ (List.mem_of_getElem? (i := 42) rfl)) rfl
abbrev w_Model_stop : List Cond := Cond.code y_Model_stop b_Model_stop 1 none :: lw_good
theorem im_Model_stop : Cond.instanceMethod y_Model_stop ∈ lw_good := lg_right (i := 2681) (by decide +kernel) rfl
theorem se_Model_stop : Cond.selects R_Model y_Model_stop y_Model_stop ∈ lw_good := lg_left (i := 197) (by decide +kernel) rfl
theorem d_Model_stop_0 : decode b_Model_stop 0 = .ok (.aload_n 0, 1) := by decide +kernel
theorem d_Model_stop_1 : decode b_Model_stop 1 = .ok (.iconst 0, 1) := by decide +kernel
theorem d_Model_stop_2 : decode b_Model_stop 2 = .ok (.putfield 630, 3) := by decide +kernel
theorem d_Model_stop_5 : decode b_Model_stop 5 = .ok (.aload_n 0, 1) := by decide +kernel
theorem d_Model_stop_6 : decode b_Model_stop 6 = .ok (.iconst (-1), 1) := by decide +kernel
theorem d_Model_stop_7 : decode b_Model_stop 7 = .ok (.putfield 624, 3) := by decide +kernel
theorem d_Model_stop_10 : decode b_Model_stop 10 = .ok (.aload_n 0, 1) := by decide +kernel
theorem d_Model_stop_11 : decode b_Model_stop 11 = .ok (.iconst (-1), 1) := by decide +kernel
theorem d_Model_stop_12 : decode b_Model_stop 12 = .ok (.putfield 627, 3) := by decide +kernel
theorem d_Model_stop_15 : decode b_Model_stop 15 = .ok (.return_, 1) := by decide +kernel
abbrev b_Model_checkStep : ByteArray := prog_14_method_73_code
abbrev y_Model_checkStep : MethodName := ⟨R_Model, "checkStep", "(I)V"⟩
theorem co_Model_checkStep : Cond.code y_Model_checkStep b_Model_checkStep 2 none ∈ lw_good := lg_in (tin_11 _ (List.mem_of_getElem? (i := 140) rfl)) rfl
abbrev w_Model_checkStep : List Cond := Cond.code y_Model_checkStep b_Model_checkStep 2 none :: lw_good
theorem im_Model_checkStep : Cond.instanceMethod y_Model_checkStep ∈ lw_good := lg_right (i := 2539) (by decide +kernel) rfl
theorem se_Model_checkStep : Cond.selects R_Model y_Model_checkStep y_Model_checkStep ∈ lw_good := lg_left (i := 163) (by decide +kernel) rfl
theorem d_Model_checkStep_0 : decode b_Model_checkStep 0 = .ok (.aload_n 0, 1) := by decide +kernel
theorem d_Model_checkStep_1 : decode b_Model_checkStep 1 = .ok (.getfield 120, 3) := by decide +kernel
theorem d_Model_checkStep_4 : decode b_Model_checkStep 4 = .ok (.iload_n 1, 1) := by decide +kernel
theorem d_Model_checkStep_5 : decode b_Model_checkStep 5 = .ok (.iaload, 1) := by decide +kernel
theorem d_Model_checkStep_6 : decode b_Model_checkStep 6 = .ok (.tableswitch 148 20 29 #[54, 62, 70, 78, 86, 99, 116, 124, 132, 140], 54) := by decide +kernel
theorem d_Model_checkStep_60 : decode b_Model_checkStep 60 = .ok (.aload_n 0, 1) := by decide +kernel
theorem d_Model_checkStep_61 : decode b_Model_checkStep 61 = .ok (.iload_n 1, 1) := by decide +kernel
theorem d_Model_checkStep_62 : decode b_Model_checkStep 62 = .ok (.invokevirtual 655, 3) := by decide +kernel
theorem ml_Model_655 : Cond.methodLink R_Model 655 ⟨"PointerHouseModel", "checkVar", "(I)V"⟩ ∈ lw_good := lg_right (i := 2541) (by decide +kernel) rfl
theorem d_Model_checkStep_65 : decode b_Model_checkStep 65 = .ok (.goto 105, 3) := by decide +kernel
theorem d_Model_checkStep_68 : decode b_Model_checkStep 68 = .ok (.aload_n 0, 1) := by decide +kernel
theorem d_Model_checkStep_69 : decode b_Model_checkStep 69 = .ok (.iload_n 1, 1) := by decide +kernel
theorem d_Model_checkStep_70 : decode b_Model_checkStep 70 = .ok (.invokevirtual 658, 3) := by decide +kernel
theorem ml_Model_658 : Cond.methodLink R_Model 658 ⟨"PointerHouseModel", "checkIf", "(I)V"⟩ ∈ lw_good := lg_right (i := 2647) (by decide +kernel) rfl
theorem d_Model_checkStep_73 : decode b_Model_checkStep 73 = .ok (.goto 97, 3) := by decide +kernel
theorem d_Model_checkStep_76 : decode b_Model_checkStep 76 = .ok (.aload_n 0, 1) := by decide +kernel
theorem d_Model_checkStep_77 : decode b_Model_checkStep 77 = .ok (.iload_n 1, 1) := by decide +kernel
theorem d_Model_checkStep_78 : decode b_Model_checkStep 78 = .ok (.invokevirtual 661, 3) := by decide +kernel
theorem ml_Model_661 : Cond.methodLink R_Model 661 ⟨"PointerHouseModel", "checkWhile", "(I)V"⟩ ∈ lw_good := lg_right (i := 2667) (by decide +kernel) rfl
theorem d_Model_checkStep_81 : decode b_Model_checkStep 81 = .ok (.goto 89, 3) := by decide +kernel
theorem d_Model_checkStep_84 : decode b_Model_checkStep 84 = .ok (.aload_n 0, 1) := by decide +kernel
theorem d_Model_checkStep_85 : decode b_Model_checkStep 85 = .ok (.iload_n 1, 1) := by decide +kernel
theorem d_Model_checkStep_86 : decode b_Model_checkStep 86 = .ok (.invokevirtual 664, 3) := by decide +kernel
theorem ml_Model_664 : Cond.methodLink R_Model 664 ⟨"PointerHouseModel", "checkReturn", "(I)V"⟩ ∈ lw_good := lg_right (i := 2675) (by decide +kernel) rfl
theorem d_Model_checkStep_89 : decode b_Model_checkStep 89 = .ok (.goto 81, 3) := by decide +kernel
theorem d_Model_checkStep_92 : decode b_Model_checkStep 92 = .ok (.aload_n 0, 1) := by decide +kernel
theorem d_Model_checkStep_93 : decode b_Model_checkStep 93 = .ok (.aload_n 0, 1) := by decide +kernel
theorem d_Model_checkStep_94 : decode b_Model_checkStep 94 = .ok (.getfield 126, 3) := by decide +kernel
theorem d_Model_checkStep_97 : decode b_Model_checkStep 97 = .ok (.iload_n 1, 1) := by decide +kernel
theorem d_Model_checkStep_98 : decode b_Model_checkStep 98 = .ok (.iaload, 1) := by decide +kernel
theorem d_Model_checkStep_99 : decode b_Model_checkStep 99 = .ok (.invokevirtual 667, 3) := by decide +kernel
theorem ml_Model_667 : Cond.methodLink R_Model 667 ⟨"PointerHouseModel", "needInt", "(I)V"⟩ ∈ lw_good := lg_right (i := 2611) (by decide +kernel) rfl
theorem d_Model_checkStep_102 : decode b_Model_checkStep 102 = .ok (.goto 68, 3) := by decide +kernel
theorem d_Model_checkStep_105 : decode b_Model_checkStep 105 = .ok (.aload_n 0, 1) := by decide +kernel
theorem d_Model_checkStep_106 : decode b_Model_checkStep 106 = .ok (.aload_n 0, 1) := by decide +kernel
theorem d_Model_checkStep_107 : decode b_Model_checkStep 107 = .ok (.getfield 126, 3) := by decide +kernel
theorem d_Model_checkStep_110 : decode b_Model_checkStep 110 = .ok (.iload_n 1, 1) := by decide +kernel
theorem d_Model_checkStep_111 : decode b_Model_checkStep 111 = .ok (.iaload, 1) := by decide +kernel
theorem d_Model_checkStep_112 : decode b_Model_checkStep 112 = .ok (.invokevirtual 667, 3) := by decide +kernel
theorem d_Model_checkStep_115 : decode b_Model_checkStep 115 = .ok (.aload_n 0, 1) := by decide +kernel
theorem d_Model_checkStep_116 : decode b_Model_checkStep 116 = .ok (.invokevirtual 670, 3) := by decide +kernel
theorem ml_Model_670 : Cond.methodLink R_Model 670 ⟨"PointerHouseModel", "stop", "()V"⟩ ∈ lw_good := lg_right (i := 2679) (by decide +kernel) rfl
theorem d_Model_checkStep_119 : decode b_Model_checkStep 119 = .ok (.goto 51, 3) := by decide +kernel
theorem d_Model_checkStep_122 : decode b_Model_checkStep 122 = .ok (.aload_n 0, 1) := by decide +kernel
theorem d_Model_checkStep_123 : decode b_Model_checkStep 123 = .ok (.iload_n 1, 1) := by decide +kernel
theorem d_Model_checkStep_124 : decode b_Model_checkStep 124 = .ok (.invokevirtual 673, 3) := by decide +kernel
theorem ml_Model_673 : Cond.methodLink R_Model 673 ⟨"PointerHouseModel", "checkRegion", "(I)V"⟩ ∈ lw_good := lg_right (i := 2683) (by decide +kernel) rfl
theorem d_Model_checkStep_127 : decode b_Model_checkStep 127 = .ok (.goto 43, 3) := by decide +kernel
theorem d_Model_checkStep_130 : decode b_Model_checkStep 130 = .ok (.aload_n 0, 1) := by decide +kernel
theorem d_Model_checkStep_131 : decode b_Model_checkStep 131 = .ok (.iload_n 1, 1) := by decide +kernel
theorem d_Model_checkStep_132 : decode b_Model_checkStep 132 = .ok (.invokevirtual 676, 3) := by decide +kernel
theorem ml_Model_676 : Cond.methodLink R_Model 676 ⟨"PointerHouseModel", "checkClose", "(I)V"⟩ ∈ lw_good := lg_right (i := 2687) (by decide +kernel) rfl
theorem d_Model_checkStep_135 : decode b_Model_checkStep 135 = .ok (.goto 35, 3) := by decide +kernel
theorem d_Model_checkStep_138 : decode b_Model_checkStep 138 = .ok (.aload_n 0, 1) := by decide +kernel
theorem d_Model_checkStep_139 : decode b_Model_checkStep 139 = .ok (.iload_n 1, 1) := by decide +kernel
theorem d_Model_checkStep_140 : decode b_Model_checkStep 140 = .ok (.invokevirtual 679, 3) := by decide +kernel
theorem ml_Model_679 : Cond.methodLink R_Model 679 ⟨"PointerHouseModel", "checkTry", "(I)V"⟩ ∈ lw_good := lg_right (i := 2691) (by decide +kernel) rfl
theorem d_Model_checkStep_143 : decode b_Model_checkStep 143 = .ok (.goto 27, 3) := by decide +kernel
theorem d_Model_checkStep_146 : decode b_Model_checkStep 146 = .ok (.aload_n 0, 1) := by decide +kernel
theorem d_Model_checkStep_147 : decode b_Model_checkStep 147 = .ok (.iload_n 1, 1) := by decide +kernel
theorem d_Model_checkStep_148 : decode b_Model_checkStep 148 = .ok (.invokevirtual 682, 3) := by decide +kernel
theorem ml_Model_682 : Cond.methodLink R_Model 682 ⟨"PointerHouseModel", "checkSet", "(I)V"⟩ ∈ lw_good := lg_right (i := 2695) (by decide +kernel) rfl
theorem d_Model_checkStep_151 : decode b_Model_checkStep 151 = .ok (.goto 19, 3) := by decide +kernel
theorem d_Model_checkStep_154 : decode b_Model_checkStep 154 = .ok (.aload_n 0, 1) := by decide +kernel
theorem d_Model_checkStep_155 : decode b_Model_checkStep 155 = .ok (.getfield 150, 3) := by decide +kernel
theorem fl_Model_150 : Cond.fieldLink R_Model 150 "PointerHouseModel" "typeOf" "[I" ∈ lw_good := lg_right (i := 1879) (by decide +kernel) rfl
theorem d_Model_checkStep_158 : decode b_Model_checkStep 158 = .ok (.iload_n 1, 1) := by decide +kernel
theorem d_Model_checkStep_159 : decode b_Model_checkStep 159 = .ok (.aload_n 0, 1) := by decide +kernel
theorem d_Model_checkStep_160 : decode b_Model_checkStep 160 = .ok (.aload_n 0, 1) := by decide +kernel
theorem d_Model_checkStep_161 : decode b_Model_checkStep 161 = .ok (.getfield 126, 3) := by decide +kernel
theorem d_Model_checkStep_164 : decode b_Model_checkStep 164 = .ok (.iload_n 1, 1) := by decide +kernel
theorem d_Model_checkStep_165 : decode b_Model_checkStep 165 = .ok (.iaload, 1) := by decide +kernel
theorem d_Model_checkStep_166 : decode b_Model_checkStep 166 = .ok (.invokevirtual 652, 3) := by decide +kernel
theorem ml_Model_652 : Cond.methodLink R_Model 652 ⟨"PointerHouseModel", "check", "(I)I"⟩ ∈ lw_good := lg_right (i := 2545) (by decide +kernel) rfl
theorem d_Model_checkStep_169 : decode b_Model_checkStep 169 = .ok (.iastore, 1) := by decide +kernel
theorem d_Model_checkStep_170 : decode b_Model_checkStep 170 = .ok (.return_, 1) := by decide +kernel
abbrev b_Model_needInt : ByteArray := prog_14_method_72_code
abbrev y_Model_needInt : MethodName := ⟨R_Model, "needInt", "(I)V"⟩
theorem co_Model_needInt : Cond.code y_Model_needInt b_Model_needInt 3 none ∈ lw_good := lg_in (tin_11 _ (List.mem_of_getElem? (i := 214) rfl)) rfl
abbrev w_Model_needInt : List Cond := Cond.code y_Model_needInt b_Model_needInt 3 none :: lw_good
theorem im_Model_needInt : Cond.instanceMethod y_Model_needInt ∈ lw_good := lg_right (i := 2613) (by decide +kernel) rfl
theorem se_Model_needInt : Cond.selects R_Model y_Model_needInt y_Model_needInt ∈ lw_good := lg_left (i := 180) (by decide +kernel) rfl
theorem d_Model_needInt_0 : decode b_Model_needInt 0 = .ok (.aload_n 0, 1) := by decide +kernel
theorem d_Model_needInt_1 : decode b_Model_needInt 1 = .ok (.iload_n 1, 1) := by decide +kernel
theorem d_Model_needInt_2 : decode b_Model_needInt 2 = .ok (.invokevirtual 652, 3) := by decide +kernel
theorem d_Model_needInt_5 : decode b_Model_needInt 5 = .ok (.istore_n 2, 1) := by decide +kernel
theorem d_Model_needInt_6 : decode b_Model_needInt 6 = .ok (.aload_n 0, 1) := by decide +kernel
theorem d_Model_needInt_7 : decode b_Model_needInt 7 = .ok (.invokevirtual 385, 3) := by decide +kernel
theorem d_Model_needInt_10 : decode b_Model_needInt 10 = .ok (.ifCond .ne 18, 3) := by decide +kernel
theorem d_Model_needInt_13 : decode b_Model_needInt 13 = .ok (.iload_n 2, 1) := by decide +kernel
theorem d_Model_needInt_14 : decode b_Model_needInt 14 = .ok (.ifCond .eq 14, 3) := by decide +kernel
theorem d_Model_needInt_17 : decode b_Model_needInt 17 = .ok (.aload_n 0, 1) := by decide +kernel
theorem d_Model_needInt_18 : decode b_Model_needInt 18 = .ok (.iconst 4, 1) := by decide +kernel
theorem d_Model_needInt_19 : decode b_Model_needInt 19 = .ok (.aload_n 0, 1) := by decide +kernel
theorem d_Model_needInt_20 : decode b_Model_needInt 20 = .ok (.getfield 123, 3) := by decide +kernel
theorem d_Model_needInt_23 : decode b_Model_needInt 23 = .ok (.iload_n 1, 1) := by decide +kernel
theorem d_Model_needInt_24 : decode b_Model_needInt 24 = .ok (.iaload, 1) := by decide +kernel
theorem d_Model_needInt_25 : decode b_Model_needInt 25 = .ok (.invokevirtual 381, 3) := by decide +kernel
theorem d_Model_needInt_28 : decode b_Model_needInt 28 = .ok (.return_, 1) := by decide +kernel
abbrev b_Model_check : ByteArray := prog_14_method_89_code
abbrev y_Model_check : MethodName := ⟨R_Model, "check", "(I)I"⟩
theorem co_Model_check : Cond.code y_Model_check b_Model_check 5 (some .int) ∈ lw_good := lg_in (tin_11 _ (List.mem_of_getElem? (i := 148) rfl)) rfl
abbrev w_Model_check : List Cond := Cond.code y_Model_check b_Model_check 5 (some .int) :: lw_good
theorem im_Model_check : Cond.instanceMethod y_Model_check ∈ lw_good := lg_right (i := 2547) (by decide +kernel) rfl
theorem se_Model_check : Cond.selects R_Model y_Model_check y_Model_check ∈ lw_good := lg_left (i := 165) (by decide +kernel) rfl
theorem d_Model_check_0 : decode b_Model_check 0 = .ok (.aload_n 0, 1) := by decide +kernel
theorem d_Model_check_1 : decode b_Model_check 1 = .ok (.invokevirtual 385, 3) := by decide +kernel
theorem d_Model_check_4 : decode b_Model_check 4 = .ok (.ifCond .eq 5, 3) := by decide +kernel
theorem d_Model_check_7 : decode b_Model_check 7 = .ok (.iconst 0, 1) := by decide +kernel
theorem d_Model_check_8 : decode b_Model_check 8 = .ok (.ireturn, 1) := by decide +kernel
theorem d_Model_check_9 : decode b_Model_check 9 = .ok (.aload_n 0, 1) := by decide +kernel
theorem d_Model_check_10 : decode b_Model_check 10 = .ok (.getfield 717, 3) := by decide +kernel
theorem fl_Model_717 : Cond.fieldLink R_Model 717 "PointerHouseModel" "spines" "I" ∈ lw_good := lg_right (i := 1913) (by decide +kernel) rfl
theorem d_Model_check_13 : decode b_Model_check 13 = .ok (.istore_n 2, 1) := by decide +kernel
theorem d_Model_check_14 : decode b_Model_check 14 = .ok (.iload_n 1, 1) := by decide +kernel
theorem d_Model_check_15 : decode b_Model_check 15 = .ok (.istore_n 3, 1) := by decide +kernel
theorem d_Model_check_16 : decode b_Model_check 16 = .ok (.aload_n 0, 1) := by decide +kernel
theorem d_Model_check_17 : decode b_Model_check 17 = .ok (.getfield 120, 3) := by decide +kernel
theorem d_Model_check_20 : decode b_Model_check 20 = .ok (.iload_n 3, 1) := by decide +kernel
theorem d_Model_check_21 : decode b_Model_check 21 = .ok (.iaload, 1) := by decide +kernel
theorem d_Model_check_22 : decode b_Model_check 22 = .ok (.invokestatic 720, 3) := by decide +kernel
theorem ml_Model_720 : Cond.methodLink R_Model 720 ⟨"PointerHouseModel", "isLeft", "(I)Z"⟩ ∈ lw_good := lg_right (i := 2549) (by decide +kernel) rfl
theorem d_Model_check_25 : decode b_Model_check 25 = .ok (.ifCond .eq 33, 3) := by decide +kernel
theorem d_Model_check_28 : decode b_Model_check 28 = .ok (.aload_n 0, 1) := by decide +kernel
theorem d_Model_check_29 : decode b_Model_check 29 = .ok (.getfield 192, 3) := by decide +kernel
theorem fl_Model_192 : Cond.fieldLink R_Model 192 "PointerHouseModel" "spine" "[I" ∈ lw_good := lg_right (i := 1912) (by decide +kernel) rfl
theorem d_Model_check_32 : decode b_Model_check 32 = .ok (.aload_n 0, 1) := by decide +kernel
theorem d_Model_check_33 : decode b_Model_check 33 = .ok (.getfield 717, 3) := by decide +kernel
theorem d_Model_check_36 : decode b_Model_check 36 = .ok (.iload_n 3, 1) := by decide +kernel
theorem d_Model_check_37 : decode b_Model_check 37 = .ok (.iastore, 1) := by decide +kernel
theorem d_Model_check_38 : decode b_Model_check 38 = .ok (.aload_n 0, 1) := by decide +kernel
theorem d_Model_check_39 : decode b_Model_check 39 = .ok (.dup, 1) := by decide +kernel
theorem d_Model_check_40 : decode b_Model_check 40 = .ok (.getfield 717, 3) := by decide +kernel
theorem d_Model_check_43 : decode b_Model_check 43 = .ok (.iconst 1, 1) := by decide +kernel
theorem d_Model_check_44 : decode b_Model_check 44 = .ok (.iadd, 1) := by decide +kernel
theorem d_Model_check_45 : decode b_Model_check 45 = .ok (.putfield 717, 3) := by decide +kernel
theorem d_Model_check_48 : decode b_Model_check 48 = .ok (.aload_n 0, 1) := by decide +kernel
theorem d_Model_check_49 : decode b_Model_check 49 = .ok (.getfield 126, 3) := by decide +kernel
theorem d_Model_check_52 : decode b_Model_check 52 = .ok (.iload_n 3, 1) := by decide +kernel
theorem d_Model_check_53 : decode b_Model_check 53 = .ok (.iaload, 1) := by decide +kernel
theorem d_Model_check_54 : decode b_Model_check 54 = .ok (.istore_n 3, 1) := by decide +kernel
theorem d_Model_check_55 : decode b_Model_check 55 = .ok (.goto (-39), 3) := by decide +kernel
theorem d_Model_check_58 : decode b_Model_check 58 = .ok (.aload_n 0, 1) := by decide +kernel
theorem d_Model_check_59 : decode b_Model_check 59 = .ok (.getfield 150, 3) := by decide +kernel
theorem d_Model_check_62 : decode b_Model_check 62 = .ok (.iload_n 3, 1) := by decide +kernel
theorem d_Model_check_63 : decode b_Model_check 63 = .ok (.aload_n 0, 1) := by decide +kernel
theorem d_Model_check_64 : decode b_Model_check 64 = .ok (.iload_n 3, 1) := by decide +kernel
theorem d_Model_check_65 : decode b_Model_check 65 = .ok (.invokevirtual 723, 3) := by decide +kernel
theorem ml_Model_723 : Cond.methodLink R_Model 723 ⟨"PointerHouseModel", "checkKind", "(I)I"⟩ ∈ lw_good := lg_right (i := 2552) (by decide +kernel) rfl
theorem d_Model_check_68 : decode b_Model_check 68 = .ok (.iastore, 1) := by decide +kernel
theorem d_Model_check_69 : decode b_Model_check 69 = .ok (.aload_n 0, 1) := by decide +kernel
theorem d_Model_check_70 : decode b_Model_check 70 = .ok (.getfield 717, 3) := by decide +kernel
theorem d_Model_check_73 : decode b_Model_check 73 = .ok (.iload_n 2, 1) := by decide +kernel
theorem d_Model_check_74 : decode b_Model_check 74 = .ok (.if_icmp .le 47, 3) := by decide +kernel
theorem d_Model_check_77 : decode b_Model_check 77 = .ok (.aload_n 0, 1) := by decide +kernel
theorem d_Model_check_78 : decode b_Model_check 78 = .ok (.invokevirtual 385, 3) := by decide +kernel
theorem d_Model_check_81 : decode b_Model_check 81 = .ok (.ifCond .ne 40, 3) := by decide +kernel
theorem d_Model_check_84 : decode b_Model_check 84 = .ok (.aload_n 0, 1) := by decide +kernel
theorem d_Model_check_85 : decode b_Model_check 85 = .ok (.dup, 1) := by decide +kernel
theorem d_Model_check_86 : decode b_Model_check 86 = .ok (.getfield 717, 3) := by decide +kernel
theorem d_Model_check_89 : decode b_Model_check 89 = .ok (.iconst 1, 1) := by decide +kernel
theorem d_Model_check_90 : decode b_Model_check 90 = .ok (.isub, 1) := by decide +kernel
theorem d_Model_check_91 : decode b_Model_check 91 = .ok (.putfield 717, 3) := by decide +kernel
theorem d_Model_check_94 : decode b_Model_check 94 = .ok (.aload_n 0, 1) := by decide +kernel
theorem d_Model_check_95 : decode b_Model_check 95 = .ok (.getfield 192, 3) := by decide +kernel
theorem d_Model_check_98 : decode b_Model_check 98 = .ok (.aload_n 0, 1) := by decide +kernel
theorem d_Model_check_99 : decode b_Model_check 99 = .ok (.getfield 717, 3) := by decide +kernel
theorem d_Model_check_102 : decode b_Model_check 102 = .ok (.iaload, 1) := by decide +kernel
theorem d_Model_check_103 : decode b_Model_check 103 = .ok (.istore 4, 2) := by decide +kernel
theorem d_Model_check_105 : decode b_Model_check 105 = .ok (.aload_n 0, 1) := by decide +kernel
theorem d_Model_check_106 : decode b_Model_check 106 = .ok (.getfield 150, 3) := by decide +kernel
theorem d_Model_check_109 : decode b_Model_check 109 = .ok (.iload 4, 2) := by decide +kernel
theorem d_Model_check_111 : decode b_Model_check 111 = .ok (.aload_n 0, 1) := by decide +kernel
theorem d_Model_check_112 : decode b_Model_check 112 = .ok (.iload 4, 2) := by decide +kernel
theorem d_Model_check_114 : decode b_Model_check 114 = .ok (.invokevirtual 723, 3) := by decide +kernel
theorem d_Model_check_117 : decode b_Model_check 117 = .ok (.iastore, 1) := by decide +kernel
theorem d_Model_check_118 : decode b_Model_check 118 = .ok (.goto (-49), 3) := by decide +kernel
theorem d_Model_check_121 : decode b_Model_check 121 = .ok (.aload_n 0, 1) := by decide +kernel
theorem d_Model_check_122 : decode b_Model_check 122 = .ok (.iload_n 2, 1) := by decide +kernel
theorem d_Model_check_123 : decode b_Model_check 123 = .ok (.putfield 717, 3) := by decide +kernel
theorem d_Model_check_126 : decode b_Model_check 126 = .ok (.aload_n 0, 1) := by decide +kernel
theorem d_Model_check_127 : decode b_Model_check 127 = .ok (.invokevirtual 385, 3) := by decide +kernel
theorem d_Model_check_130 : decode b_Model_check 130 = .ok (.ifCond .eq 7, 3) := by decide +kernel
theorem d_Model_check_133 : decode b_Model_check 133 = .ok (.iconst 0, 1) := by decide +kernel
theorem d_Model_check_134 : decode b_Model_check 134 = .ok (.goto 9, 3) := by decide +kernel
theorem d_Model_check_137 : decode b_Model_check 137 = .ok (.aload_n 0, 1) := by decide +kernel
theorem d_Model_check_138 : decode b_Model_check 138 = .ok (.getfield 150, 3) := by decide +kernel
theorem d_Model_check_141 : decode b_Model_check 141 = .ok (.iload_n 1, 1) := by decide +kernel
theorem d_Model_check_142 : decode b_Model_check 142 = .ok (.iaload, 1) := by decide +kernel
theorem d_Model_check_143 : decode b_Model_check 143 = .ok (.ireturn, 1) := by decide +kernel
abbrev b_Model_checkVar : ByteArray := prog_14_method_74_code
abbrev y_Model_checkVar : MethodName := ⟨R_Model, "checkVar", "(I)V"⟩
theorem co_Model_checkVar : Cond.code y_Model_checkVar b_Model_checkVar 4 none ∈ lw_good := lg_in (tin_11 _ (List.mem_of_getElem? (i := 144) rfl)) rfl
abbrev w_Model_checkVar : List Cond := Cond.code y_Model_checkVar b_Model_checkVar 4 none :: lw_good
theorem im_Model_checkVar : Cond.instanceMethod y_Model_checkVar ∈ lw_good := lg_right (i := 2543) (by decide +kernel) rfl
theorem se_Model_checkVar : Cond.selects R_Model y_Model_checkVar y_Model_checkVar ∈ lw_good := lg_left (i := 164) (by decide +kernel) rfl
theorem d_Model_checkVar_0 : decode b_Model_checkVar 0 = .ok (.aload_n 0, 1) := by decide +kernel
theorem d_Model_checkVar_1 : decode b_Model_checkVar 1 = .ok (.dup, 1) := by decide +kernel
theorem d_Model_checkVar_2 : decode b_Model_checkVar 2 = .ok (.getfield 685, 3) := by decide +kernel
theorem fl_Model_685 : Cond.fieldLink R_Model 685 "PointerHouseModel" "varSteps" "I" ∈ lw_good := lg_right (i := 1911) (by decide +kernel) rfl
theorem d_Model_checkVar_5 : decode b_Model_checkVar 5 = .ok (.iconst 1, 1) := by decide +kernel
theorem d_Model_checkVar_6 : decode b_Model_checkVar 6 = .ok (.iadd, 1) := by decide +kernel
theorem d_Model_checkVar_7 : decode b_Model_checkVar 7 = .ok (.putfield 685, 3) := by decide +kernel
theorem d_Model_checkVar_10 : decode b_Model_checkVar 10 = .ok (.aload_n 0, 1) := by decide +kernel
theorem d_Model_checkVar_11 : decode b_Model_checkVar 11 = .ok (.aload_n 0, 1) := by decide +kernel
theorem d_Model_checkVar_12 : decode b_Model_checkVar 12 = .ok (.getfield 129, 3) := by decide +kernel
theorem d_Model_checkVar_15 : decode b_Model_checkVar 15 = .ok (.iload_n 1, 1) := by decide +kernel
theorem d_Model_checkVar_16 : decode b_Model_checkVar 16 = .ok (.iaload, 1) := by decide +kernel
theorem d_Model_checkVar_17 : decode b_Model_checkVar 17 = .ok (.invokevirtual 584, 3) := by decide +kernel
theorem d_Model_checkVar_20 : decode b_Model_checkVar 20 = .ok (.istore_n 2, 1) := by decide +kernel
theorem d_Model_checkVar_21 : decode b_Model_checkVar 21 = .ok (.aload_n 0, 1) := by decide +kernel
theorem d_Model_checkVar_22 : decode b_Model_checkVar 22 = .ok (.getfield 126, 3) := by decide +kernel
theorem d_Model_checkVar_25 : decode b_Model_checkVar 25 = .ok (.iload_n 1, 1) := by decide +kernel
theorem d_Model_checkVar_26 : decode b_Model_checkVar 26 = .ok (.iaload, 1) := by decide +kernel
theorem d_Model_checkVar_27 : decode b_Model_checkVar 27 = .ok (.ifCond .lt 10, 3) := by decide +kernel
theorem d_Model_checkVar_30 : decode b_Model_checkVar 30 = .ok (.aload_n 0, 1) := by decide +kernel
theorem d_Model_checkVar_31 : decode b_Model_checkVar 31 = .ok (.invokevirtual 385, 3) := by decide +kernel
theorem d_Model_checkVar_34 : decode b_Model_checkVar 34 = .ok (.ifCond .eq 7, 3) := by decide +kernel
theorem d_Model_checkVar_37 : decode b_Model_checkVar 37 = .ok (.iconst (-1), 1) := by decide +kernel
theorem d_Model_checkVar_38 : decode b_Model_checkVar 38 = .ok (.goto 13, 3) := by decide +kernel
theorem d_Model_checkVar_41 : decode b_Model_checkVar 41 = .ok (.aload_n 0, 1) := by decide +kernel
theorem d_Model_checkVar_42 : decode b_Model_checkVar 42 = .ok (.aload_n 0, 1) := by decide +kernel
theorem d_Model_checkVar_43 : decode b_Model_checkVar 43 = .ok (.getfield 126, 3) := by decide +kernel
theorem d_Model_checkVar_46 : decode b_Model_checkVar 46 = .ok (.iload_n 1, 1) := by decide +kernel
theorem d_Model_checkVar_47 : decode b_Model_checkVar 47 = .ok (.iaload, 1) := by decide +kernel
theorem d_Model_checkVar_48 : decode b_Model_checkVar 48 = .ok (.invokevirtual 652, 3) := by decide +kernel
theorem d_Model_checkVar_51 : decode b_Model_checkVar 51 = .ok (.istore_n 3, 1) := by decide +kernel
theorem d_Model_checkVar_52 : decode b_Model_checkVar 52 = .ok (.aload_n 0, 1) := by decide +kernel
theorem d_Model_checkVar_53 : decode b_Model_checkVar 53 = .ok (.getfield 126, 3) := by decide +kernel
theorem d_Model_checkVar_56 : decode b_Model_checkVar 56 = .ok (.iload_n 1, 1) := by decide +kernel
theorem d_Model_checkVar_57 : decode b_Model_checkVar 57 = .ok (.iaload, 1) := by decide +kernel
theorem d_Model_checkVar_58 : decode b_Model_checkVar 58 = .ok (.ifCond .lt 33, 3) := by decide +kernel
theorem d_Model_checkVar_61 : decode b_Model_checkVar 61 = .ok (.aload_n 0, 1) := by decide +kernel
theorem d_Model_checkVar_62 : decode b_Model_checkVar 62 = .ok (.iload_n 3, 1) := by decide +kernel
theorem d_Model_checkVar_63 : decode b_Model_checkVar 63 = .ok (.iload_n 2, 1) := by decide +kernel
theorem d_Model_checkVar_64 : decode b_Model_checkVar 64 = .ok (.aload_n 0, 1) := by decide +kernel
theorem d_Model_checkVar_65 : decode b_Model_checkVar 65 = .ok (.getfield 123, 3) := by decide +kernel
theorem d_Model_checkVar_68 : decode b_Model_checkVar 68 = .ok (.aload_n 0, 1) := by decide +kernel
theorem d_Model_checkVar_69 : decode b_Model_checkVar 69 = .ok (.getfield 126, 3) := by decide +kernel
theorem d_Model_checkVar_72 : decode b_Model_checkVar 72 = .ok (.iload_n 1, 1) := by decide +kernel
theorem d_Model_checkVar_73 : decode b_Model_checkVar 73 = .ok (.iaload, 1) := by decide +kernel
theorem d_Model_checkVar_74 : decode b_Model_checkVar 74 = .ok (.ifCond .ge 7, 3) := by decide +kernel
theorem d_Model_checkVar_77 : decode b_Model_checkVar 77 = .ok (.iload_n 1, 1) := by decide +kernel
theorem d_Model_checkVar_78 : decode b_Model_checkVar 78 = .ok (.goto 9, 3) := by decide +kernel
theorem d_Model_checkVar_81 : decode b_Model_checkVar 81 = .ok (.aload_n 0, 1) := by decide +kernel
theorem d_Model_checkVar_82 : decode b_Model_checkVar 82 = .ok (.getfield 126, 3) := by decide +kernel
theorem d_Model_checkVar_85 : decode b_Model_checkVar 85 = .ok (.iload_n 1, 1) := by decide +kernel
theorem d_Model_checkVar_86 : decode b_Model_checkVar 86 = .ok (.iaload, 1) := by decide +kernel
theorem d_Model_checkVar_87 : decode b_Model_checkVar 87 = .ok (.iaload, 1) := by decide +kernel
theorem d_Model_checkVar_88 : decode b_Model_checkVar 88 = .ok (.invokevirtual 688, 3) := by decide +kernel
theorem ml_Model_688 : Cond.methodLink R_Model 688 ⟨"PointerHouseModel", "fit", "(III)V"⟩ ∈ lw_good := lg_right (i := 2579) (by decide +kernel) rfl
theorem d_Model_checkVar_91 : decode b_Model_checkVar 91 = .ok (.aload_n 0, 1) := by decide +kernel
theorem d_Model_checkVar_92 : decode b_Model_checkVar 92 = .ok (.invokevirtual 385, 3) := by decide +kernel
theorem d_Model_checkVar_95 : decode b_Model_checkVar 95 = .ok (.ifCond .ne 27, 3) := by decide +kernel
theorem d_Model_checkVar_98 : decode b_Model_checkVar 98 = .ok (.aload_n 0, 1) := by decide +kernel
theorem d_Model_checkVar_99 : decode b_Model_checkVar 99 = .ok (.aload_n 0, 1) := by decide +kernel
theorem d_Model_checkVar_100 : decode b_Model_checkVar 100 = .ok (.getfield 138, 3) := by decide +kernel
theorem d_Model_checkVar_103 : decode b_Model_checkVar 103 = .ok (.iload_n 1, 1) := by decide +kernel
theorem d_Model_checkVar_104 : decode b_Model_checkVar 104 = .ok (.laload, 1) := by decide +kernel
theorem d_Model_checkVar_105 : decode b_Model_checkVar 105 = .ok (.invokevirtual 691, 3) := by decide +kernel
theorem ml_Model_691 : Cond.methodLink R_Model 691 ⟨"PointerHouseModel", "findVar", "(J)I"⟩ ∈ lw_good := lg_right (i := 2560) (by decide +kernel) rfl
theorem d_Model_checkVar_108 : decode b_Model_checkVar 108 = .ok (.ifCond .lt 14, 3) := by decide +kernel
theorem d_Model_checkVar_111 : decode b_Model_checkVar 111 = .ok (.aload_n 0, 1) := by decide +kernel
theorem d_Model_checkVar_112 : decode b_Model_checkVar 112 = .ok (.iconst 2, 1) := by decide +kernel
theorem d_Model_checkVar_113 : decode b_Model_checkVar 113 = .ok (.aload_n 0, 1) := by decide +kernel
theorem d_Model_checkVar_114 : decode b_Model_checkVar 114 = .ok (.getfield 141, 3) := by decide +kernel
theorem d_Model_checkVar_117 : decode b_Model_checkVar 117 = .ok (.iload_n 1, 1) := by decide +kernel
theorem d_Model_checkVar_118 : decode b_Model_checkVar 118 = .ok (.iaload, 1) := by decide +kernel
theorem d_Model_checkVar_119 : decode b_Model_checkVar 119 = .ok (.invokevirtual 381, 3) := by decide +kernel
theorem d_Model_checkVar_122 : decode b_Model_checkVar 122 = .ok (.aload_n 0, 1) := by decide +kernel
theorem d_Model_checkVar_123 : decode b_Model_checkVar 123 = .ok (.invokevirtual 385, 3) := by decide +kernel
theorem d_Model_checkVar_126 : decode b_Model_checkVar 126 = .ok (.ifCond .eq 4, 3) := by decide +kernel
theorem d_Model_checkVar_129 : decode b_Model_checkVar 129 = .ok (.return_, 1) := by decide +kernel
theorem d_Model_checkVar_130 : decode b_Model_checkVar 130 = .ok (.aload_n 0, 1) := by decide +kernel
theorem d_Model_checkVar_131 : decode b_Model_checkVar 131 = .ok (.aload_n 0, 1) := by decide +kernel
theorem d_Model_checkVar_132 : decode b_Model_checkVar 132 = .ok (.getfield 138, 3) := by decide +kernel
theorem d_Model_checkVar_135 : decode b_Model_checkVar 135 = .ok (.iload_n 1, 1) := by decide +kernel
theorem d_Model_checkVar_136 : decode b_Model_checkVar 136 = .ok (.laload, 1) := by decide +kernel
theorem d_Model_checkVar_137 : decode b_Model_checkVar 137 = .ok (.aload_n 0, 1) := by decide +kernel
theorem d_Model_checkVar_138 : decode b_Model_checkVar 138 = .ok (.getfield 153, 3) := by decide +kernel
theorem d_Model_checkVar_141 : decode b_Model_checkVar 141 = .ok (.iload_n 1, 1) := by decide +kernel
theorem d_Model_checkVar_142 : decode b_Model_checkVar 142 = .ok (.iaload, 1) := by decide +kernel
theorem d_Model_checkVar_143 : decode b_Model_checkVar 143 = .ok (.iload_n 2, 1) := by decide +kernel
theorem d_Model_checkVar_144 : decode b_Model_checkVar 144 = .ok (.invokevirtual 643, 3) := by decide +kernel
theorem d_Model_checkVar_147 : decode b_Model_checkVar 147 = .ok (.aload_n 0, 1) := by decide +kernel
theorem d_Model_checkVar_148 : decode b_Model_checkVar 148 = .ok (.getfield 630, 3) := by decide +kernel
theorem d_Model_checkVar_151 : decode b_Model_checkVar 151 = .ok (.ifCond .eq 29, 3) := by decide +kernel
theorem d_Model_checkVar_154 : decode b_Model_checkVar 154 = .ok (.aload_n 0, 1) := by decide +kernel
theorem d_Model_checkVar_155 : decode b_Model_checkVar 155 = .ok (.aload_n 0, 1) := by decide +kernel
theorem d_Model_checkVar_156 : decode b_Model_checkVar 156 = .ok (.getfield 153, 3) := by decide +kernel
theorem d_Model_checkVar_159 : decode b_Model_checkVar 159 = .ok (.iload_n 1, 1) := by decide +kernel
theorem d_Model_checkVar_160 : decode b_Model_checkVar 160 = .ok (.iaload, 1) := by decide +kernel
theorem d_Model_checkVar_161 : decode b_Model_checkVar 161 = .ok (.iload_n 2, 1) := by decide +kernel
theorem d_Model_checkVar_162 : decode b_Model_checkVar 162 = .ok (.iload_n 3, 1) := by decide +kernel
theorem d_Model_checkVar_163 : decode b_Model_checkVar 163 = .ok (.aload_n 0, 1) := by decide +kernel
theorem d_Model_checkVar_164 : decode b_Model_checkVar 164 = .ok (.getfield 126, 3) := by decide +kernel
theorem d_Model_checkVar_167 : decode b_Model_checkVar 167 = .ok (.iload_n 1, 1) := by decide +kernel
theorem d_Model_checkVar_168 : decode b_Model_checkVar 168 = .ok (.iaload, 1) := by decide +kernel
theorem d_Model_checkVar_169 : decode b_Model_checkVar 169 = .ok (.ifCond .lt 7, 3) := by decide +kernel
theorem d_Model_checkVar_172 : decode b_Model_checkVar 172 = .ok (.iconst 1, 1) := by decide +kernel
theorem d_Model_checkVar_173 : decode b_Model_checkVar 173 = .ok (.goto 4, 3) := by decide +kernel
theorem d_Model_checkVar_176 : decode b_Model_checkVar 176 = .ok (.iconst 0, 1) := by decide +kernel
theorem d_Model_checkVar_177 : decode b_Model_checkVar 177 = .ok (.invokevirtual 694, 3) := by decide +kernel
theorem ml_Model_694 : Cond.methodLink R_Model 694 ⟨"PointerHouseModel", "give", "(IIIZ)V"⟩ ∈ lw_good := lg_right (i := 2643) (by decide +kernel) rfl
theorem d_Model_checkVar_180 : decode b_Model_checkVar 180 = .ok (.return_, 1) := by decide +kernel
abbrev b_Model_checkIf : ByteArray := prog_14_method_80_code
abbrev y_Model_checkIf : MethodName := ⟨R_Model, "checkIf", "(I)V"⟩
theorem co_Model_checkIf : Cond.code y_Model_checkIf b_Model_checkIf 12 none ∈ lw_good := lg_in (tin_12 _ (List.mem_of_getElem? (i := 10) rfl)) rfl
abbrev w_Model_checkIf : List Cond := Cond.code y_Model_checkIf b_Model_checkIf 12 none :: lw_good
theorem im_Model_checkIf : Cond.instanceMethod y_Model_checkIf ∈ lw_good := lg_right (i := 2649) (by decide +kernel) rfl
theorem se_Model_checkIf : Cond.selects R_Model y_Model_checkIf y_Model_checkIf ∈ lw_good := lg_left (i := 189) (by decide +kernel) rfl
theorem d_Model_checkIf_0 : decode b_Model_checkIf 0 = .ok (.aload_n 0, 1) := by decide +kernel
theorem d_Model_checkIf_1 : decode b_Model_checkIf 1 = .ok (.aload_n 0, 1) := by decide +kernel
theorem d_Model_checkIf_2 : decode b_Model_checkIf 2 = .ok (.getfield 126, 3) := by decide +kernel
theorem d_Model_checkIf_5 : decode b_Model_checkIf 5 = .ok (.iload_n 1, 1) := by decide +kernel
theorem d_Model_checkIf_6 : decode b_Model_checkIf 6 = .ok (.iaload, 1) := by decide +kernel
theorem d_Model_checkIf_7 : decode b_Model_checkIf 7 = .ok (.invokevirtual 701, 3) := by decide +kernel
theorem ml_Model_701 : Cond.methodLink R_Model 701 ⟨"PointerHouseModel", "checkCondition", "(I)V"⟩ ∈ lw_good := lg_right (i := 2651) (by decide +kernel) rfl
theorem d_Model_checkIf_10 : decode b_Model_checkIf 10 = .ok (.aload_n 0, 1) := by decide +kernel
theorem d_Model_checkIf_11 : decode b_Model_checkIf 11 = .ok (.invokevirtual 385, 3) := by decide +kernel
theorem d_Model_checkIf_14 : decode b_Model_checkIf 14 = .ok (.ifCond .eq 4, 3) := by decide +kernel
theorem d_Model_checkIf_17 : decode b_Model_checkIf 17 = .ok (.return_, 1) := by decide +kernel
theorem d_Model_checkIf_18 : decode b_Model_checkIf 18 = .ok (.aload_n 0, 1) := by decide +kernel
theorem d_Model_checkIf_19 : decode b_Model_checkIf 19 = .ok (.aload_n 0, 1) := by decide +kernel
theorem d_Model_checkIf_20 : decode b_Model_checkIf 20 = .ok (.getfield 126, 3) := by decide +kernel
theorem d_Model_checkIf_23 : decode b_Model_checkIf 23 = .ok (.iload_n 1, 1) := by decide +kernel
theorem d_Model_checkIf_24 : decode b_Model_checkIf 24 = .ok (.iaload, 1) := by decide +kernel
theorem d_Model_checkIf_25 : decode b_Model_checkIf 25 = .ok (.iconst 0, 1) := by decide +kernel
theorem d_Model_checkIf_26 : decode b_Model_checkIf 26 = .ok (.invokevirtual 704, 3) := by decide +kernel
theorem ml_Model_704 : Cond.methodLink R_Model 704 ⟨"PointerHouseModel", "asked", "(IZ)I"⟩ ∈ lw_good := lg_right (i := 2655) (by decide +kernel) rfl
theorem d_Model_checkIf_29 : decode b_Model_checkIf 29 = .ok (.istore_n 2, 1) := by decide +kernel
theorem d_Model_checkIf_30 : decode b_Model_checkIf 30 = .ok (.aload_n 0, 1) := by decide +kernel
theorem d_Model_checkIf_31 : decode b_Model_checkIf 31 = .ok (.aload_n 0, 1) := by decide +kernel
theorem d_Model_checkIf_32 : decode b_Model_checkIf 32 = .ok (.getfield 126, 3) := by decide +kernel
theorem d_Model_checkIf_35 : decode b_Model_checkIf 35 = .ok (.iload_n 1, 1) := by decide +kernel
theorem d_Model_checkIf_36 : decode b_Model_checkIf 36 = .ok (.iaload, 1) := by decide +kernel
theorem d_Model_checkIf_37 : decode b_Model_checkIf 37 = .ok (.iconst 1, 1) := by decide +kernel
theorem d_Model_checkIf_38 : decode b_Model_checkIf 38 = .ok (.invokevirtual 704, 3) := by decide +kernel
theorem d_Model_checkIf_41 : decode b_Model_checkIf 41 = .ok (.istore_n 3, 1) := by decide +kernel
theorem d_Model_checkIf_42 : decode b_Model_checkIf 42 = .ok (.aload_n 0, 1) := by decide +kernel
theorem d_Model_checkIf_43 : decode b_Model_checkIf 43 = .ok (.getfield 624, 3) := by decide +kernel
theorem d_Model_checkIf_46 : decode b_Model_checkIf 46 = .ok (.istore 4, 2) := by decide +kernel
theorem d_Model_checkIf_48 : decode b_Model_checkIf 48 = .ok (.aload_n 0, 1) := by decide +kernel
theorem d_Model_checkIf_49 : decode b_Model_checkIf 49 = .ok (.getfield 627, 3) := by decide +kernel
theorem d_Model_checkIf_52 : decode b_Model_checkIf 52 = .ok (.istore 5, 2) := by decide +kernel
theorem d_Model_checkIf_54 : decode b_Model_checkIf 54 = .ok (.aload_n 0, 1) := by decide +kernel
theorem d_Model_checkIf_55 : decode b_Model_checkIf 55 = .ok (.getfield 575, 3) := by decide +kernel
theorem d_Model_checkIf_58 : decode b_Model_checkIf 58 = .ok (.istore 6, 2) := by decide +kernel
theorem d_Model_checkIf_60 : decode b_Model_checkIf 60 = .ok (.aload_n 0, 1) := by decide +kernel
theorem d_Model_checkIf_61 : decode b_Model_checkIf 61 = .ok (.getfield 630, 3) := by decide +kernel
theorem d_Model_checkIf_64 : decode b_Model_checkIf 64 = .ok (.istore 7, 2) := by decide +kernel
theorem d_Model_checkIf_66 : decode b_Model_checkIf 66 = .ok (.aload_n 0, 1) := by decide +kernel
theorem d_Model_checkIf_67 : decode b_Model_checkIf 67 = .ok (.iload_n 2, 1) := by decide +kernel
theorem d_Model_checkIf_68 : decode b_Model_checkIf 68 = .ok (.invokevirtual 708, 3) := by decide +kernel
theorem ml_Model_708 : Cond.methodLink R_Model 708 ⟨"PointerHouseModel", "knowing", "(I)V"⟩ ∈ lw_good := lg_right (i := 2659) (by decide +kernel) rfl
theorem d_Model_checkIf_71 : decode b_Model_checkIf 71 = .ok (.aload_n 0, 1) := by decide +kernel
theorem d_Model_checkIf_72 : decode b_Model_checkIf 72 = .ok (.aload_n 0, 1) := by decide +kernel
theorem d_Model_checkIf_73 : decode b_Model_checkIf 73 = .ok (.getfield 129, 3) := by decide +kernel
theorem d_Model_checkIf_76 : decode b_Model_checkIf 76 = .ok (.iload_n 1, 1) := by decide +kernel
theorem d_Model_checkIf_77 : decode b_Model_checkIf 77 = .ok (.iaload, 1) := by decide +kernel
theorem d_Model_checkIf_78 : decode b_Model_checkIf 78 = .ok (.invokevirtual 646, 3) := by decide +kernel
theorem d_Model_checkIf_81 : decode b_Model_checkIf 81 = .ok (.aload_n 0, 1) := by decide +kernel
theorem d_Model_checkIf_82 : decode b_Model_checkIf 82 = .ok (.invokevirtual 385, 3) := by decide +kernel
theorem d_Model_checkIf_85 : decode b_Model_checkIf 85 = .ok (.ifCond .eq 4, 3) := by decide +kernel
theorem d_Model_checkIf_88 : decode b_Model_checkIf 88 = .ok (.return_, 1) := by decide +kernel
theorem d_Model_checkIf_89 : decode b_Model_checkIf 89 = .ok (.aload_n 0, 1) := by decide +kernel
theorem d_Model_checkIf_90 : decode b_Model_checkIf 90 = .ok (.getfield 624, 3) := by decide +kernel
theorem d_Model_checkIf_93 : decode b_Model_checkIf 93 = .ok (.istore 8, 2) := by decide +kernel
theorem d_Model_checkIf_95 : decode b_Model_checkIf 95 = .ok (.aload_n 0, 1) := by decide +kernel
theorem d_Model_checkIf_96 : decode b_Model_checkIf 96 = .ok (.getfield 627, 3) := by decide +kernel
theorem d_Model_checkIf_99 : decode b_Model_checkIf 99 = .ok (.istore 9, 2) := by decide +kernel
theorem d_Model_checkIf_101 : decode b_Model_checkIf 101 = .ok (.aload_n 0, 1) := by decide +kernel
theorem d_Model_checkIf_102 : decode b_Model_checkIf 102 = .ok (.getfield 575, 3) := by decide +kernel
theorem d_Model_checkIf_105 : decode b_Model_checkIf 105 = .ok (.istore 10, 2) := by decide +kernel
theorem d_Model_checkIf_107 : decode b_Model_checkIf 107 = .ok (.aload_n 0, 1) := by decide +kernel
theorem d_Model_checkIf_108 : decode b_Model_checkIf 108 = .ok (.getfield 630, 3) := by decide +kernel
theorem d_Model_checkIf_111 : decode b_Model_checkIf 111 = .ok (.istore 11, 2) := by decide +kernel
theorem d_Model_checkIf_113 : decode b_Model_checkIf 113 = .ok (.aload_n 0, 1) := by decide +kernel
theorem d_Model_checkIf_114 : decode b_Model_checkIf 114 = .ok (.iload 4, 2) := by decide +kernel
theorem d_Model_checkIf_116 : decode b_Model_checkIf 116 = .ok (.putfield 624, 3) := by decide +kernel
theorem d_Model_checkIf_119 : decode b_Model_checkIf 119 = .ok (.aload_n 0, 1) := by decide +kernel
theorem d_Model_checkIf_120 : decode b_Model_checkIf 120 = .ok (.iload 5, 2) := by decide +kernel
theorem d_Model_checkIf_122 : decode b_Model_checkIf 122 = .ok (.putfield 627, 3) := by decide +kernel
theorem d_Model_checkIf_125 : decode b_Model_checkIf 125 = .ok (.aload_n 0, 1) := by decide +kernel
theorem d_Model_checkIf_126 : decode b_Model_checkIf 126 = .ok (.iload 6, 2) := by decide +kernel
theorem d_Model_checkIf_128 : decode b_Model_checkIf 128 = .ok (.putfield 575, 3) := by decide +kernel
theorem d_Model_checkIf_131 : decode b_Model_checkIf 131 = .ok (.aload_n 0, 1) := by decide +kernel
theorem d_Model_checkIf_132 : decode b_Model_checkIf 132 = .ok (.iload 7, 2) := by decide +kernel
theorem d_Model_checkIf_134 : decode b_Model_checkIf 134 = .ok (.putfield 630, 3) := by decide +kernel
theorem d_Model_checkIf_137 : decode b_Model_checkIf 137 = .ok (.aload_n 0, 1) := by decide +kernel
theorem d_Model_checkIf_138 : decode b_Model_checkIf 138 = .ok (.iload_n 3, 1) := by decide +kernel
theorem d_Model_checkIf_139 : decode b_Model_checkIf 139 = .ok (.invokevirtual 708, 3) := by decide +kernel
theorem d_Model_checkIf_142 : decode b_Model_checkIf 142 = .ok (.aload_n 0, 1) := by decide +kernel
theorem d_Model_checkIf_143 : decode b_Model_checkIf 143 = .ok (.getfield 132, 3) := by decide +kernel
theorem d_Model_checkIf_146 : decode b_Model_checkIf 146 = .ok (.iload_n 1, 1) := by decide +kernel
theorem d_Model_checkIf_147 : decode b_Model_checkIf 147 = .ok (.iaload, 1) := by decide +kernel
theorem d_Model_checkIf_148 : decode b_Model_checkIf 148 = .ok (.ifCond .lt 13, 3) := by decide +kernel
theorem d_Model_checkIf_151 : decode b_Model_checkIf 151 = .ok (.aload_n 0, 1) := by decide +kernel
theorem d_Model_checkIf_152 : decode b_Model_checkIf 152 = .ok (.aload_n 0, 1) := by decide +kernel
theorem d_Model_checkIf_153 : decode b_Model_checkIf 153 = .ok (.getfield 132, 3) := by decide +kernel
theorem d_Model_checkIf_156 : decode b_Model_checkIf 156 = .ok (.iload_n 1, 1) := by decide +kernel
theorem d_Model_checkIf_157 : decode b_Model_checkIf 157 = .ok (.iaload, 1) := by decide +kernel
theorem d_Model_checkIf_158 : decode b_Model_checkIf 158 = .ok (.invokevirtual 646, 3) := by decide +kernel
theorem d_Model_checkIf_161 : decode b_Model_checkIf 161 = .ok (.aload_n 0, 1) := by decide +kernel
theorem d_Model_checkIf_162 : decode b_Model_checkIf 162 = .ok (.invokevirtual 385, 3) := by decide +kernel
theorem d_Model_checkIf_165 : decode b_Model_checkIf 165 = .ok (.ifCond .ne 21, 3) := by decide +kernel
theorem d_Model_checkIf_168 : decode b_Model_checkIf 168 = .ok (.aload_n 0, 1) := by decide +kernel
theorem d_Model_checkIf_169 : decode b_Model_checkIf 169 = .ok (.iload 8, 2) := by decide +kernel
theorem d_Model_checkIf_171 : decode b_Model_checkIf 171 = .ok (.iload 9, 2) := by decide +kernel
theorem d_Model_checkIf_173 : decode b_Model_checkIf 173 = .ok (.iload 10, 2) := by decide +kernel
theorem d_Model_checkIf_175 : decode b_Model_checkIf 175 = .ok (.iload 11, 2) := by decide +kernel
theorem d_Model_checkIf_177 : decode b_Model_checkIf 177 = .ok (.aload_n 0, 1) := by decide +kernel
theorem d_Model_checkIf_178 : decode b_Model_checkIf 178 = .ok (.getfield 123, 3) := by decide +kernel
theorem d_Model_checkIf_181 : decode b_Model_checkIf 181 = .ok (.iload_n 1, 1) := by decide +kernel
theorem d_Model_checkIf_182 : decode b_Model_checkIf 182 = .ok (.iaload, 1) := by decide +kernel
theorem d_Model_checkIf_183 : decode b_Model_checkIf 183 = .ok (.invokevirtual 711, 3) := by decide +kernel
theorem ml_Model_711 : Cond.methodLink R_Model 711 ⟨"PointerHouseModel", "meet", "(IIIZI)V"⟩ ∈ lw_good := lg_right (i := 2663) (by decide +kernel) rfl
theorem d_Model_checkIf_186 : decode b_Model_checkIf 186 = .ok (.return_, 1) := by decide +kernel
abbrev b_Model_checkWhile : ByteArray := prog_14_method_83_code
abbrev y_Model_checkWhile : MethodName := ⟨R_Model, "checkWhile", "(I)V"⟩
theorem co_Model_checkWhile : Cond.code y_Model_checkWhile b_Model_checkWhile 8 none ∈ lw_good := lg_in (tin_12 _ (List.mem_of_getElem? (i := 30) rfl)) rfl
abbrev w_Model_checkWhile : List Cond := Cond.code y_Model_checkWhile b_Model_checkWhile 8 none :: lw_good
theorem im_Model_checkWhile : Cond.instanceMethod y_Model_checkWhile ∈ lw_good := lg_right (i := 2669) (by decide +kernel) rfl
theorem se_Model_checkWhile : Cond.selects R_Model y_Model_checkWhile y_Model_checkWhile ∈ lw_good := lg_left (i := 194) (by decide +kernel) rfl
theorem d_Model_checkWhile_0 : decode b_Model_checkWhile 0 = .ok (.aload_n 0, 1) := by decide +kernel
theorem d_Model_checkWhile_1 : decode b_Model_checkWhile 1 = .ok (.getfield 630, 3) := by decide +kernel
theorem d_Model_checkWhile_4 : decode b_Model_checkWhile 4 = .ok (.ifCond .eq 24, 3) := by decide +kernel
theorem d_Model_checkWhile_7 : decode b_Model_checkWhile 7 = .ok (.aload_n 0, 1) := by decide +kernel
theorem d_Model_checkWhile_8 : decode b_Model_checkWhile 8 = .ok (.dup, 1) := by decide +kernel
theorem d_Model_checkWhile_9 : decode b_Model_checkWhile 9 = .ok (.getfield 627, 3) := by decide +kernel
theorem d_Model_checkWhile_12 : decode b_Model_checkWhile 12 = .ok (.aload_n 0, 1) := by decide +kernel
theorem d_Model_checkWhile_13 : decode b_Model_checkWhile 13 = .ok (.aload_n 0, 1) := by decide +kernel
theorem d_Model_checkWhile_14 : decode b_Model_checkWhile 14 = .ok (.getfield 129, 3) := by decide +kernel
theorem d_Model_checkWhile_17 : decode b_Model_checkWhile 17 = .ok (.iload_n 1, 1) := by decide +kernel
theorem d_Model_checkWhile_18 : decode b_Model_checkWhile 18 = .ok (.iaload, 1) := by decide +kernel
theorem d_Model_checkWhile_19 : decode b_Model_checkWhile 19 = .ok (.invokevirtual 715, 3) := by decide +kernel
theorem ml_Model_715 : Cond.methodLink R_Model 715 ⟨"PointerHouseModel", "given", "(I)I"⟩ ∈ lw_good := lg_right (i := 2671) (by decide +kernel) rfl
theorem d_Model_checkWhile_22 : decode b_Model_checkWhile 22 = .ok (.iconst (-1), 1) := by decide +kernel
theorem d_Model_checkWhile_23 : decode b_Model_checkWhile 23 = .ok (.ixor, 1) := by decide +kernel
theorem d_Model_checkWhile_24 : decode b_Model_checkWhile 24 = .ok (.iand, 1) := by decide +kernel
theorem d_Model_checkWhile_25 : decode b_Model_checkWhile 25 = .ok (.putfield 627, 3) := by decide +kernel
theorem d_Model_checkWhile_28 : decode b_Model_checkWhile 28 = .ok (.aload_n 0, 1) := by decide +kernel
theorem d_Model_checkWhile_29 : decode b_Model_checkWhile 29 = .ok (.aload_n 0, 1) := by decide +kernel
theorem d_Model_checkWhile_30 : decode b_Model_checkWhile 30 = .ok (.getfield 126, 3) := by decide +kernel
theorem d_Model_checkWhile_33 : decode b_Model_checkWhile 33 = .ok (.iload_n 1, 1) := by decide +kernel
theorem d_Model_checkWhile_34 : decode b_Model_checkWhile 34 = .ok (.iaload, 1) := by decide +kernel
theorem d_Model_checkWhile_35 : decode b_Model_checkWhile 35 = .ok (.invokevirtual 701, 3) := by decide +kernel
theorem d_Model_checkWhile_38 : decode b_Model_checkWhile 38 = .ok (.aload_n 0, 1) := by decide +kernel
theorem d_Model_checkWhile_39 : decode b_Model_checkWhile 39 = .ok (.invokevirtual 385, 3) := by decide +kernel
theorem d_Model_checkWhile_42 : decode b_Model_checkWhile 42 = .ok (.ifCond .eq 4, 3) := by decide +kernel
theorem d_Model_checkWhile_45 : decode b_Model_checkWhile 45 = .ok (.return_, 1) := by decide +kernel
theorem d_Model_checkWhile_46 : decode b_Model_checkWhile 46 = .ok (.aload_n 0, 1) := by decide +kernel
theorem d_Model_checkWhile_47 : decode b_Model_checkWhile 47 = .ok (.aload_n 0, 1) := by decide +kernel
theorem d_Model_checkWhile_48 : decode b_Model_checkWhile 48 = .ok (.getfield 126, 3) := by decide +kernel
theorem d_Model_checkWhile_51 : decode b_Model_checkWhile 51 = .ok (.iload_n 1, 1) := by decide +kernel
theorem d_Model_checkWhile_52 : decode b_Model_checkWhile 52 = .ok (.iaload, 1) := by decide +kernel
theorem d_Model_checkWhile_53 : decode b_Model_checkWhile 53 = .ok (.iconst 0, 1) := by decide +kernel
theorem d_Model_checkWhile_54 : decode b_Model_checkWhile 54 = .ok (.invokevirtual 704, 3) := by decide +kernel
theorem d_Model_checkWhile_57 : decode b_Model_checkWhile 57 = .ok (.istore_n 2, 1) := by decide +kernel
theorem d_Model_checkWhile_58 : decode b_Model_checkWhile 58 = .ok (.aload_n 0, 1) := by decide +kernel
theorem d_Model_checkWhile_59 : decode b_Model_checkWhile 59 = .ok (.aload_n 0, 1) := by decide +kernel
theorem d_Model_checkWhile_60 : decode b_Model_checkWhile 60 = .ok (.getfield 126, 3) := by decide +kernel
theorem d_Model_checkWhile_63 : decode b_Model_checkWhile 63 = .ok (.iload_n 1, 1) := by decide +kernel
theorem d_Model_checkWhile_64 : decode b_Model_checkWhile 64 = .ok (.iaload, 1) := by decide +kernel
theorem d_Model_checkWhile_65 : decode b_Model_checkWhile 65 = .ok (.iconst 1, 1) := by decide +kernel
theorem d_Model_checkWhile_66 : decode b_Model_checkWhile 66 = .ok (.invokevirtual 704, 3) := by decide +kernel
theorem d_Model_checkWhile_69 : decode b_Model_checkWhile 69 = .ok (.istore_n 3, 1) := by decide +kernel
theorem d_Model_checkWhile_70 : decode b_Model_checkWhile 70 = .ok (.aload_n 0, 1) := by decide +kernel
theorem d_Model_checkWhile_71 : decode b_Model_checkWhile 71 = .ok (.getfield 624, 3) := by decide +kernel
theorem d_Model_checkWhile_74 : decode b_Model_checkWhile 74 = .ok (.istore 4, 2) := by decide +kernel
theorem d_Model_checkWhile_76 : decode b_Model_checkWhile 76 = .ok (.aload_n 0, 1) := by decide +kernel
theorem d_Model_checkWhile_77 : decode b_Model_checkWhile 77 = .ok (.getfield 627, 3) := by decide +kernel
theorem d_Model_checkWhile_80 : decode b_Model_checkWhile 80 = .ok (.istore 5, 2) := by decide +kernel
theorem d_Model_checkWhile_82 : decode b_Model_checkWhile 82 = .ok (.aload_n 0, 1) := by decide +kernel
theorem d_Model_checkWhile_83 : decode b_Model_checkWhile 83 = .ok (.getfield 575, 3) := by decide +kernel
theorem d_Model_checkWhile_86 : decode b_Model_checkWhile 86 = .ok (.istore 6, 2) := by decide +kernel
theorem d_Model_checkWhile_88 : decode b_Model_checkWhile 88 = .ok (.aload_n 0, 1) := by decide +kernel
theorem d_Model_checkWhile_89 : decode b_Model_checkWhile 89 = .ok (.getfield 630, 3) := by decide +kernel
theorem d_Model_checkWhile_92 : decode b_Model_checkWhile 92 = .ok (.istore 7, 2) := by decide +kernel
theorem d_Model_checkWhile_94 : decode b_Model_checkWhile 94 = .ok (.aload_n 0, 1) := by decide +kernel
theorem d_Model_checkWhile_95 : decode b_Model_checkWhile 95 = .ok (.iload_n 2, 1) := by decide +kernel
theorem d_Model_checkWhile_96 : decode b_Model_checkWhile 96 = .ok (.invokevirtual 708, 3) := by decide +kernel
theorem d_Model_checkWhile_99 : decode b_Model_checkWhile 99 = .ok (.aload_n 0, 1) := by decide +kernel
theorem d_Model_checkWhile_100 : decode b_Model_checkWhile 100 = .ok (.aload_n 0, 1) := by decide +kernel
theorem d_Model_checkWhile_101 : decode b_Model_checkWhile 101 = .ok (.getfield 129, 3) := by decide +kernel
theorem d_Model_checkWhile_104 : decode b_Model_checkWhile 104 = .ok (.iload_n 1, 1) := by decide +kernel
theorem d_Model_checkWhile_105 : decode b_Model_checkWhile 105 = .ok (.iaload, 1) := by decide +kernel
theorem d_Model_checkWhile_106 : decode b_Model_checkWhile 106 = .ok (.invokevirtual 646, 3) := by decide +kernel
theorem d_Model_checkWhile_109 : decode b_Model_checkWhile 109 = .ok (.aload_n 0, 1) := by decide +kernel
theorem d_Model_checkWhile_110 : decode b_Model_checkWhile 110 = .ok (.invokevirtual 385, 3) := by decide +kernel
theorem d_Model_checkWhile_113 : decode b_Model_checkWhile 113 = .ok (.ifCond .ne 31, 3) := by decide +kernel
theorem d_Model_checkWhile_116 : decode b_Model_checkWhile 116 = .ok (.aload_n 0, 1) := by decide +kernel
theorem d_Model_checkWhile_117 : decode b_Model_checkWhile 117 = .ok (.getfield 630, 3) := by decide +kernel
theorem d_Model_checkWhile_120 : decode b_Model_checkWhile 120 = .ok (.ifCond .eq 24, 3) := by decide +kernel
theorem d_Model_checkWhile_123 : decode b_Model_checkWhile 123 = .ok (.aload_n 0, 1) := by decide +kernel
theorem d_Model_checkWhile_124 : decode b_Model_checkWhile 124 = .ok (.getfield 575, 3) := by decide +kernel
theorem d_Model_checkWhile_127 : decode b_Model_checkWhile 127 = .ok (.iload 6, 2) := by decide +kernel
theorem d_Model_checkWhile_129 : decode b_Model_checkWhile 129 = .ok (.if_icmp .eq 15, 3) := by decide +kernel
theorem d_Model_checkWhile_132 : decode b_Model_checkWhile 132 = .ok (.aload_n 0, 1) := by decide +kernel
theorem d_Model_checkWhile_133 : decode b_Model_checkWhile 133 = .ok (.bipush 8, 2) := by decide +kernel
theorem d_Model_checkWhile_135 : decode b_Model_checkWhile 135 = .ok (.aload_n 0, 1) := by decide +kernel
theorem d_Model_checkWhile_136 : decode b_Model_checkWhile 136 = .ok (.getfield 123, 3) := by decide +kernel
theorem d_Model_checkWhile_139 : decode b_Model_checkWhile 139 = .ok (.iload_n 1, 1) := by decide +kernel
theorem d_Model_checkWhile_140 : decode b_Model_checkWhile 140 = .ok (.iaload, 1) := by decide +kernel
theorem d_Model_checkWhile_141 : decode b_Model_checkWhile 141 = .ok (.invokevirtual 381, 3) := by decide +kernel
theorem d_Model_checkWhile_144 : decode b_Model_checkWhile 144 = .ok (.aload_n 0, 1) := by decide +kernel
theorem d_Model_checkWhile_145 : decode b_Model_checkWhile 145 = .ok (.iload 4, 2) := by decide +kernel
theorem d_Model_checkWhile_147 : decode b_Model_checkWhile 147 = .ok (.putfield 624, 3) := by decide +kernel
theorem d_Model_checkWhile_150 : decode b_Model_checkWhile 150 = .ok (.aload_n 0, 1) := by decide +kernel
theorem d_Model_checkWhile_151 : decode b_Model_checkWhile 151 = .ok (.iload 5, 2) := by decide +kernel
theorem d_Model_checkWhile_153 : decode b_Model_checkWhile 153 = .ok (.putfield 627, 3) := by decide +kernel
theorem d_Model_checkWhile_156 : decode b_Model_checkWhile 156 = .ok (.aload_n 0, 1) := by decide +kernel
theorem d_Model_checkWhile_157 : decode b_Model_checkWhile 157 = .ok (.iload 6, 2) := by decide +kernel
theorem d_Model_checkWhile_159 : decode b_Model_checkWhile 159 = .ok (.putfield 575, 3) := by decide +kernel
theorem d_Model_checkWhile_162 : decode b_Model_checkWhile 162 = .ok (.aload_n 0, 1) := by decide +kernel
theorem d_Model_checkWhile_163 : decode b_Model_checkWhile 163 = .ok (.iload 7, 2) := by decide +kernel
theorem d_Model_checkWhile_165 : decode b_Model_checkWhile 165 = .ok (.putfield 630, 3) := by decide +kernel
theorem d_Model_checkWhile_168 : decode b_Model_checkWhile 168 = .ok (.aload_n 0, 1) := by decide +kernel
theorem d_Model_checkWhile_169 : decode b_Model_checkWhile 169 = .ok (.iload_n 3, 1) := by decide +kernel
theorem d_Model_checkWhile_170 : decode b_Model_checkWhile 170 = .ok (.invokevirtual 708, 3) := by decide +kernel
theorem d_Model_checkWhile_173 : decode b_Model_checkWhile 173 = .ok (.return_, 1) := by decide +kernel
abbrev b_Model_checkReturn : ByteArray := prog_14_method_84_code
abbrev y_Model_checkReturn : MethodName := ⟨R_Model, "checkReturn", "(I)V"⟩
theorem co_Model_checkReturn : Cond.code y_Model_checkReturn b_Model_checkReturn 3 none ∈ lw_good := lg_in (tin_12 _ (List.mem_of_getElem? (i := 38) rfl)) rfl
abbrev w_Model_checkReturn : List Cond := Cond.code y_Model_checkReturn b_Model_checkReturn 3 none :: lw_good
theorem im_Model_checkReturn : Cond.instanceMethod y_Model_checkReturn ∈ lw_good := lg_right (i := 2677) (by decide +kernel) rfl
theorem se_Model_checkReturn : Cond.selects R_Model y_Model_checkReturn y_Model_checkReturn ∈ lw_good := lg_left (i := 196) (by decide +kernel) rfl
theorem d_Model_checkReturn_0 : decode b_Model_checkReturn 0 = .ok (.aload_n 0, 1) := by decide +kernel
theorem d_Model_checkReturn_1 : decode b_Model_checkReturn 1 = .ok (.getfield 54, 3) := by decide +kernel
theorem d_Model_checkReturn_4 : decode b_Model_checkReturn 4 = .ok (.aload_n 0, 1) := by decide +kernel
theorem d_Model_checkReturn_5 : decode b_Model_checkReturn 5 = .ok (.getfield 433, 3) := by decide +kernel
theorem d_Model_checkReturn_8 : decode b_Model_checkReturn 8 = .ok (.iaload, 1) := by decide +kernel
theorem d_Model_checkReturn_9 : decode b_Model_checkReturn 9 = .ok (.ifCond .lt 7, 3) := by decide +kernel
theorem d_Model_checkReturn_12 : decode b_Model_checkReturn 12 = .ok (.iconst 1, 1) := by decide +kernel
theorem d_Model_checkReturn_13 : decode b_Model_checkReturn 13 = .ok (.goto 4, 3) := by decide +kernel
theorem d_Model_checkReturn_16 : decode b_Model_checkReturn 16 = .ok (.iconst 0, 1) := by decide +kernel
theorem d_Model_checkReturn_17 : decode b_Model_checkReturn 17 = .ok (.aload_n 0, 1) := by decide +kernel
theorem d_Model_checkReturn_18 : decode b_Model_checkReturn 18 = .ok (.getfield 126, 3) := by decide +kernel
theorem d_Model_checkReturn_21 : decode b_Model_checkReturn 21 = .ok (.iload_n 1, 1) := by decide +kernel
theorem d_Model_checkReturn_22 : decode b_Model_checkReturn 22 = .ok (.iaload, 1) := by decide +kernel
theorem d_Model_checkReturn_23 : decode b_Model_checkReturn 23 = .ok (.ifCond .lt 7, 3) := by decide +kernel
theorem d_Model_checkReturn_26 : decode b_Model_checkReturn 26 = .ok (.iconst 1, 1) := by decide +kernel
theorem d_Model_checkReturn_27 : decode b_Model_checkReturn 27 = .ok (.goto 4, 3) := by decide +kernel
theorem d_Model_checkReturn_30 : decode b_Model_checkReturn 30 = .ok (.iconst 0, 1) := by decide +kernel
theorem d_Model_checkReturn_31 : decode b_Model_checkReturn 31 = .ok (.if_icmp .eq 15, 3) := by decide +kernel
theorem d_Model_checkReturn_34 : decode b_Model_checkReturn 34 = .ok (.aload_n 0, 1) := by decide +kernel
theorem d_Model_checkReturn_35 : decode b_Model_checkReturn 35 = .ok (.bipush 8, 2) := by decide +kernel
theorem d_Model_checkReturn_37 : decode b_Model_checkReturn 37 = .ok (.aload_n 0, 1) := by decide +kernel
theorem d_Model_checkReturn_38 : decode b_Model_checkReturn 38 = .ok (.getfield 123, 3) := by decide +kernel
theorem d_Model_checkReturn_41 : decode b_Model_checkReturn 41 = .ok (.iload_n 1, 1) := by decide +kernel
theorem d_Model_checkReturn_42 : decode b_Model_checkReturn 42 = .ok (.iaload, 1) := by decide +kernel
theorem d_Model_checkReturn_43 : decode b_Model_checkReturn 43 = .ok (.invokevirtual 381, 3) := by decide +kernel
theorem d_Model_checkReturn_46 : decode b_Model_checkReturn 46 = .ok (.aload_n 0, 1) := by decide +kernel
theorem d_Model_checkReturn_47 : decode b_Model_checkReturn 47 = .ok (.invokevirtual 385, 3) := by decide +kernel
theorem d_Model_checkReturn_50 : decode b_Model_checkReturn 50 = .ok (.ifCond .eq 4, 3) := by decide +kernel
theorem d_Model_checkReturn_53 : decode b_Model_checkReturn 53 = .ok (.return_, 1) := by decide +kernel
theorem d_Model_checkReturn_54 : decode b_Model_checkReturn 54 = .ok (.aload_n 0, 1) := by decide +kernel
theorem d_Model_checkReturn_55 : decode b_Model_checkReturn 55 = .ok (.getfield 126, 3) := by decide +kernel
theorem d_Model_checkReturn_58 : decode b_Model_checkReturn 58 = .ok (.iload_n 1, 1) := by decide +kernel
theorem d_Model_checkReturn_59 : decode b_Model_checkReturn 59 = .ok (.iaload, 1) := by decide +kernel
theorem d_Model_checkReturn_60 : decode b_Model_checkReturn 60 = .ok (.ifCond .lt 39, 3) := by decide +kernel
theorem d_Model_checkReturn_63 : decode b_Model_checkReturn 63 = .ok (.aload_n 0, 1) := by decide +kernel
theorem d_Model_checkReturn_64 : decode b_Model_checkReturn 64 = .ok (.aload_n 0, 1) := by decide +kernel
theorem d_Model_checkReturn_65 : decode b_Model_checkReturn 65 = .ok (.getfield 126, 3) := by decide +kernel
theorem d_Model_checkReturn_68 : decode b_Model_checkReturn 68 = .ok (.iload_n 1, 1) := by decide +kernel
theorem d_Model_checkReturn_69 : decode b_Model_checkReturn 69 = .ok (.iaload, 1) := by decide +kernel
theorem d_Model_checkReturn_70 : decode b_Model_checkReturn 70 = .ok (.invokevirtual 652, 3) := by decide +kernel
theorem d_Model_checkReturn_73 : decode b_Model_checkReturn 73 = .ok (.istore_n 2, 1) := by decide +kernel
theorem d_Model_checkReturn_74 : decode b_Model_checkReturn 74 = .ok (.aload_n 0, 1) := by decide +kernel
theorem d_Model_checkReturn_75 : decode b_Model_checkReturn 75 = .ok (.iload_n 2, 1) := by decide +kernel
theorem d_Model_checkReturn_76 : decode b_Model_checkReturn 76 = .ok (.aload_n 0, 1) := by decide +kernel
theorem d_Model_checkReturn_77 : decode b_Model_checkReturn 77 = .ok (.getfield 57, 3) := by decide +kernel
theorem d_Model_checkReturn_80 : decode b_Model_checkReturn 80 = .ok (.aload_n 0, 1) := by decide +kernel
theorem d_Model_checkReturn_81 : decode b_Model_checkReturn 81 = .ok (.getfield 433, 3) := by decide +kernel
theorem d_Model_checkReturn_84 : decode b_Model_checkReturn 84 = .ok (.iaload, 1) := by decide +kernel
theorem d_Model_checkReturn_85 : decode b_Model_checkReturn 85 = .ok (.aload_n 0, 1) := by decide +kernel
theorem d_Model_checkReturn_86 : decode b_Model_checkReturn 86 = .ok (.getfield 123, 3) := by decide +kernel
theorem d_Model_checkReturn_89 : decode b_Model_checkReturn 89 = .ok (.aload_n 0, 1) := by decide +kernel
theorem d_Model_checkReturn_90 : decode b_Model_checkReturn 90 = .ok (.getfield 126, 3) := by decide +kernel
theorem d_Model_checkReturn_93 : decode b_Model_checkReturn 93 = .ok (.iload_n 1, 1) := by decide +kernel
theorem d_Model_checkReturn_94 : decode b_Model_checkReturn 94 = .ok (.iaload, 1) := by decide +kernel
theorem d_Model_checkReturn_95 : decode b_Model_checkReturn 95 = .ok (.iaload, 1) := by decide +kernel
theorem d_Model_checkReturn_96 : decode b_Model_checkReturn 96 = .ok (.invokevirtual 688, 3) := by decide +kernel
theorem d_Model_checkReturn_99 : decode b_Model_checkReturn 99 = .ok (.aload_n 0, 1) := by decide +kernel
theorem d_Model_checkReturn_100 : decode b_Model_checkReturn 100 = .ok (.invokevirtual 670, 3) := by decide +kernel
theorem d_Model_checkReturn_103 : decode b_Model_checkReturn 103 = .ok (.return_, 1) := by decide +kernel
abbrev b_Model_checkRegion : ByteArray := prog_14_method_85_code
abbrev y_Model_checkRegion : MethodName := ⟨R_Model, "checkRegion", "(I)V"⟩
theorem co_Model_checkRegion : Cond.code y_Model_checkRegion b_Model_checkRegion 5 none ∈ lw_good := lg_in (tin_12 _ (List.mem_of_getElem? (i := 46) rfl)) rfl
abbrev w_Model_checkRegion : List Cond := Cond.code y_Model_checkRegion b_Model_checkRegion 5 none :: lw_good
theorem im_Model_checkRegion : Cond.instanceMethod y_Model_checkRegion ∈ lw_good := lg_right (i := 2685) (by decide +kernel) rfl
theorem se_Model_checkRegion : Cond.selects R_Model y_Model_checkRegion y_Model_checkRegion ∈ lw_good := lg_left (i := 198) (by decide +kernel) rfl
theorem d_Model_checkRegion_0 : decode b_Model_checkRegion 0 = .ok (.aload_n 0, 1) := by decide +kernel
theorem d_Model_checkRegion_1 : decode b_Model_checkRegion 1 = .ok (.getfield 144, 3) := by decide +kernel
theorem d_Model_checkRegion_4 : decode b_Model_checkRegion 4 = .ok (.iload_n 1, 1) := by decide +kernel
theorem d_Model_checkRegion_5 : decode b_Model_checkRegion 5 = .ok (.iaload, 1) := by decide +kernel
theorem d_Model_checkRegion_6 : decode b_Model_checkRegion 6 = .ok (.istore_n 2, 1) := by decide +kernel
theorem d_Model_checkRegion_7 : decode b_Model_checkRegion 7 = .ok (.aload_n 0, 1) := by decide +kernel
theorem d_Model_checkRegion_8 : decode b_Model_checkRegion 8 = .ok (.aload_n 0, 1) := by decide +kernel
theorem d_Model_checkRegion_9 : decode b_Model_checkRegion 9 = .ok (.getfield 111, 3) := by decide +kernel
theorem d_Model_checkRegion_12 : decode b_Model_checkRegion 12 = .ok (.iload_n 2, 1) := by decide +kernel
theorem d_Model_checkRegion_13 : decode b_Model_checkRegion 13 = .ok (.laload, 1) := by decide +kernel
theorem d_Model_checkRegion_14 : decode b_Model_checkRegion 14 = .ok (.invokevirtual 571, 3) := by decide +kernel
theorem d_Model_checkRegion_17 : decode b_Model_checkRegion 17 = .ok (.ifCond .lt 14, 3) := by decide +kernel
theorem d_Model_checkRegion_20 : decode b_Model_checkRegion 20 = .ok (.aload_n 0, 1) := by decide +kernel
theorem d_Model_checkRegion_21 : decode b_Model_checkRegion 21 = .ok (.iconst 2, 1) := by decide +kernel
theorem d_Model_checkRegion_22 : decode b_Model_checkRegion 22 = .ok (.aload_n 0, 1) := by decide +kernel
theorem d_Model_checkRegion_23 : decode b_Model_checkRegion 23 = .ok (.getfield 114, 3) := by decide +kernel
theorem d_Model_checkRegion_26 : decode b_Model_checkRegion 26 = .ok (.iload_n 2, 1) := by decide +kernel
theorem d_Model_checkRegion_27 : decode b_Model_checkRegion 27 = .ok (.iaload, 1) := by decide +kernel
theorem d_Model_checkRegion_28 : decode b_Model_checkRegion 28 = .ok (.invokevirtual 381, 3) := by decide +kernel
theorem d_Model_checkRegion_31 : decode b_Model_checkRegion 31 = .ok (.aload_n 0, 1) := by decide +kernel
theorem d_Model_checkRegion_32 : decode b_Model_checkRegion 32 = .ok (.invokevirtual 385, 3) := by decide +kernel
theorem d_Model_checkRegion_35 : decode b_Model_checkRegion 35 = .ok (.ifCond .eq 4, 3) := by decide +kernel
theorem d_Model_checkRegion_38 : decode b_Model_checkRegion 38 = .ok (.return_, 1) := by decide +kernel
theorem d_Model_checkRegion_39 : decode b_Model_checkRegion 39 = .ok (.iconst 4, 1) := by decide +kernel
theorem d_Model_checkRegion_40 : decode b_Model_checkRegion 40 = .ok (.aload_n 0, 1) := by decide +kernel
theorem d_Model_checkRegion_41 : decode b_Model_checkRegion 41 = .ok (.getfield 637, 3) := by decide +kernel
theorem d_Model_checkRegion_44 : decode b_Model_checkRegion 44 = .ok (.iadd, 1) := by decide +kernel
theorem d_Model_checkRegion_45 : decode b_Model_checkRegion 45 = .ok (.istore_n 3, 1) := by decide +kernel
theorem d_Model_checkRegion_46 : decode b_Model_checkRegion 46 = .ok (.aload_n 0, 1) := by decide +kernel
theorem d_Model_checkRegion_47 : decode b_Model_checkRegion 47 = .ok (.dup, 1) := by decide +kernel
theorem d_Model_checkRegion_48 : decode b_Model_checkRegion 48 = .ok (.getfield 637, 3) := by decide +kernel
theorem d_Model_checkRegion_51 : decode b_Model_checkRegion 51 = .ok (.iconst 1, 1) := by decide +kernel
theorem d_Model_checkRegion_52 : decode b_Model_checkRegion 52 = .ok (.iadd, 1) := by decide +kernel
theorem d_Model_checkRegion_53 : decode b_Model_checkRegion 53 = .ok (.putfield 637, 3) := by decide +kernel
theorem d_Model_checkRegion_56 : decode b_Model_checkRegion 56 = .ok (.aload_n 0, 1) := by decide +kernel
theorem d_Model_checkRegion_57 : decode b_Model_checkRegion 57 = .ok (.getfield 117, 3) := by decide +kernel
theorem d_Model_checkRegion_60 : decode b_Model_checkRegion 60 = .ok (.iload_n 2, 1) := by decide +kernel
theorem d_Model_checkRegion_61 : decode b_Model_checkRegion 61 = .ok (.iload_n 3, 1) := by decide +kernel
theorem d_Model_checkRegion_62 : decode b_Model_checkRegion 62 = .ok (.iastore, 1) := by decide +kernel
theorem d_Model_checkRegion_63 : decode b_Model_checkRegion 63 = .ok (.aload_n 0, 1) := by decide +kernel
theorem d_Model_checkRegion_64 : decode b_Model_checkRegion 64 = .ok (.getfield 177, 3) := by decide +kernel
theorem d_Model_checkRegion_67 : decode b_Model_checkRegion 67 = .ok (.iload_n 3, 1) := by decide +kernel
theorem d_Model_checkRegion_68 : decode b_Model_checkRegion 68 = .ok (.iconst 0, 1) := by decide +kernel
theorem d_Model_checkRegion_69 : decode b_Model_checkRegion 69 = .ok (.iastore, 1) := by decide +kernel
theorem d_Model_checkRegion_70 : decode b_Model_checkRegion 70 = .ok (.iconst 0, 1) := by decide +kernel
theorem d_Model_checkRegion_71 : decode b_Model_checkRegion 71 = .ok (.istore 4, 2) := by decide +kernel
theorem d_Model_checkRegion_73 : decode b_Model_checkRegion 73 = .ok (.iload 4, 2) := by decide +kernel
theorem d_Model_checkRegion_75 : decode b_Model_checkRegion 75 = .ok (.aload_n 0, 1) := by decide +kernel
theorem d_Model_checkRegion_76 : decode b_Model_checkRegion 76 = .ok (.getfield 634, 3) := by decide +kernel
theorem d_Model_checkRegion_79 : decode b_Model_checkRegion 79 = .ok (.if_icmp .ge 32, 3) := by decide +kernel
theorem d_Model_checkRegion_82 : decode b_Model_checkRegion 82 = .ok (.aload_n 0, 1) := by decide +kernel
theorem d_Model_checkRegion_83 : decode b_Model_checkRegion 83 = .ok (.getfield 189, 3) := by decide +kernel
theorem fl_Model_189 : Cond.fieldLink R_Model 189 "PointerHouseModel" "around" "[I" ∈ lw_good := lg_right (i := 1904) (by decide +kernel) rfl
theorem d_Model_checkRegion_86 : decode b_Model_checkRegion 86 = .ok (.iload 4, 2) := by decide +kernel
theorem d_Model_checkRegion_88 : decode b_Model_checkRegion 88 = .ok (.iaload, 1) := by decide +kernel
theorem d_Model_checkRegion_89 : decode b_Model_checkRegion 89 = .ok (.ifCond .le 16, 3) := by decide +kernel
theorem d_Model_checkRegion_92 : decode b_Model_checkRegion 92 = .ok (.aload_n 0, 1) := by decide +kernel
theorem d_Model_checkRegion_93 : decode b_Model_checkRegion 93 = .ok (.getfield 177, 3) := by decide +kernel
theorem d_Model_checkRegion_96 : decode b_Model_checkRegion 96 = .ok (.iload_n 3, 1) := by decide +kernel
theorem d_Model_checkRegion_97 : decode b_Model_checkRegion 97 = .ok (.aload_n 0, 1) := by decide +kernel
theorem d_Model_checkRegion_98 : decode b_Model_checkRegion 98 = .ok (.getfield 189, 3) := by decide +kernel
theorem d_Model_checkRegion_101 : decode b_Model_checkRegion 101 = .ok (.iload 4, 2) := by decide +kernel
theorem d_Model_checkRegion_103 : decode b_Model_checkRegion 103 = .ok (.iaload, 1) := by decide +kernel
theorem d_Model_checkRegion_104 : decode b_Model_checkRegion 104 = .ok (.iastore, 1) := by decide +kernel
theorem d_Model_checkRegion_105 : decode b_Model_checkRegion 105 = .ok (.iinc 4 1, 3) := by decide +kernel
theorem d_Model_checkRegion_108 : decode b_Model_checkRegion 108 = .ok (.goto (-35), 3) := by decide +kernel
theorem d_Model_checkRegion_111 : decode b_Model_checkRegion 111 = .ok (.aload_n 0, 1) := by decide +kernel
theorem d_Model_checkRegion_112 : decode b_Model_checkRegion 112 = .ok (.getfield 171, 3) := by decide +kernel
theorem d_Model_checkRegion_115 : decode b_Model_checkRegion 115 = .ok (.aload_n 0, 1) := by decide +kernel
theorem d_Model_checkRegion_116 : decode b_Model_checkRegion 116 = .ok (.getfield 568, 3) := by decide +kernel
theorem d_Model_checkRegion_119 : decode b_Model_checkRegion 119 = .ok (.aload_n 0, 1) := by decide +kernel
theorem d_Model_checkRegion_120 : decode b_Model_checkRegion 120 = .ok (.getfield 111, 3) := by decide +kernel
theorem d_Model_checkRegion_123 : decode b_Model_checkRegion 123 = .ok (.iload_n 2, 1) := by decide +kernel
theorem d_Model_checkRegion_124 : decode b_Model_checkRegion 124 = .ok (.laload, 1) := by decide +kernel
theorem d_Model_checkRegion_125 : decode b_Model_checkRegion 125 = .ok (.lastore, 1) := by decide +kernel
theorem d_Model_checkRegion_126 : decode b_Model_checkRegion 126 = .ok (.aload_n 0, 1) := by decide +kernel
theorem d_Model_checkRegion_127 : decode b_Model_checkRegion 127 = .ok (.getfield 174, 3) := by decide +kernel
theorem d_Model_checkRegion_130 : decode b_Model_checkRegion 130 = .ok (.aload_n 0, 1) := by decide +kernel
theorem d_Model_checkRegion_131 : decode b_Model_checkRegion 131 = .ok (.getfield 568, 3) := by decide +kernel
theorem d_Model_checkRegion_134 : decode b_Model_checkRegion 134 = .ok (.iload_n 3, 1) := by decide +kernel
theorem d_Model_checkRegion_135 : decode b_Model_checkRegion 135 = .ok (.iastore, 1) := by decide +kernel
theorem d_Model_checkRegion_136 : decode b_Model_checkRegion 136 = .ok (.aload_n 0, 1) := by decide +kernel
theorem d_Model_checkRegion_137 : decode b_Model_checkRegion 137 = .ok (.dup, 1) := by decide +kernel
theorem d_Model_checkRegion_138 : decode b_Model_checkRegion 138 = .ok (.getfield 568, 3) := by decide +kernel
theorem d_Model_checkRegion_141 : decode b_Model_checkRegion 141 = .ok (.iconst 1, 1) := by decide +kernel
theorem d_Model_checkRegion_142 : decode b_Model_checkRegion 142 = .ok (.iadd, 1) := by decide +kernel
theorem d_Model_checkRegion_143 : decode b_Model_checkRegion 143 = .ok (.putfield 568, 3) := by decide +kernel
theorem d_Model_checkRegion_146 : decode b_Model_checkRegion 146 = .ok (.aload_n 0, 1) := by decide +kernel
theorem d_Model_checkRegion_147 : decode b_Model_checkRegion 147 = .ok (.getfield 189, 3) := by decide +kernel
theorem d_Model_checkRegion_150 : decode b_Model_checkRegion 150 = .ok (.aload_n 0, 1) := by decide +kernel
theorem d_Model_checkRegion_151 : decode b_Model_checkRegion 151 = .ok (.getfield 634, 3) := by decide +kernel
theorem d_Model_checkRegion_154 : decode b_Model_checkRegion 154 = .ok (.iload_n 3, 1) := by decide +kernel
theorem d_Model_checkRegion_155 : decode b_Model_checkRegion 155 = .ok (.iastore, 1) := by decide +kernel
theorem d_Model_checkRegion_156 : decode b_Model_checkRegion 156 = .ok (.aload_n 0, 1) := by decide +kernel
theorem d_Model_checkRegion_157 : decode b_Model_checkRegion 157 = .ok (.dup, 1) := by decide +kernel
theorem d_Model_checkRegion_158 : decode b_Model_checkRegion 158 = .ok (.getfield 634, 3) := by decide +kernel
theorem d_Model_checkRegion_161 : decode b_Model_checkRegion 161 = .ok (.iconst 1, 1) := by decide +kernel
theorem d_Model_checkRegion_162 : decode b_Model_checkRegion 162 = .ok (.iadd, 1) := by decide +kernel
theorem d_Model_checkRegion_163 : decode b_Model_checkRegion 163 = .ok (.putfield 634, 3) := by decide +kernel
theorem d_Model_checkRegion_166 : decode b_Model_checkRegion 166 = .ok (.aload_n 0, 1) := by decide +kernel
theorem d_Model_checkRegion_167 : decode b_Model_checkRegion 167 = .ok (.dup, 1) := by decide +kernel
theorem d_Model_checkRegion_168 : decode b_Model_checkRegion 168 = .ok (.getfield 575, 3) := by decide +kernel
theorem d_Model_checkRegion_171 : decode b_Model_checkRegion 171 = .ok (.iconst 1, 1) := by decide +kernel
theorem d_Model_checkRegion_172 : decode b_Model_checkRegion 172 = .ok (.iload_n 3, 1) := by decide +kernel
theorem d_Model_checkRegion_173 : decode b_Model_checkRegion 173 = .ok (.ishl, 1) := by decide +kernel
theorem d_Model_checkRegion_174 : decode b_Model_checkRegion 174 = .ok (.ior, 1) := by decide +kernel
theorem d_Model_checkRegion_175 : decode b_Model_checkRegion 175 = .ok (.putfield 575, 3) := by decide +kernel
theorem d_Model_checkRegion_178 : decode b_Model_checkRegion 178 = .ok (.aload_n 0, 1) := by decide +kernel
theorem d_Model_checkRegion_179 : decode b_Model_checkRegion 179 = .ok (.aload_n 0, 1) := by decide +kernel
theorem d_Model_checkRegion_180 : decode b_Model_checkRegion 180 = .ok (.getfield 126, 3) := by decide +kernel
theorem d_Model_checkRegion_183 : decode b_Model_checkRegion 183 = .ok (.iload_n 1, 1) := by decide +kernel
theorem d_Model_checkRegion_184 : decode b_Model_checkRegion 184 = .ok (.iaload, 1) := by decide +kernel
theorem d_Model_checkRegion_185 : decode b_Model_checkRegion 185 = .ok (.invokevirtual 646, 3) := by decide +kernel
theorem d_Model_checkRegion_188 : decode b_Model_checkRegion 188 = .ok (.aload_n 0, 1) := by decide +kernel
theorem d_Model_checkRegion_189 : decode b_Model_checkRegion 189 = .ok (.dup, 1) := by decide +kernel
theorem d_Model_checkRegion_190 : decode b_Model_checkRegion 190 = .ok (.getfield 634, 3) := by decide +kernel
theorem d_Model_checkRegion_193 : decode b_Model_checkRegion 193 = .ok (.iconst 1, 1) := by decide +kernel
theorem d_Model_checkRegion_194 : decode b_Model_checkRegion 194 = .ok (.isub, 1) := by decide +kernel
theorem d_Model_checkRegion_195 : decode b_Model_checkRegion 195 = .ok (.putfield 634, 3) := by decide +kernel
theorem d_Model_checkRegion_198 : decode b_Model_checkRegion 198 = .ok (.aload_n 0, 1) := by decide +kernel
theorem d_Model_checkRegion_199 : decode b_Model_checkRegion 199 = .ok (.dup, 1) := by decide +kernel
theorem d_Model_checkRegion_200 : decode b_Model_checkRegion 200 = .ok (.getfield 568, 3) := by decide +kernel
theorem d_Model_checkRegion_203 : decode b_Model_checkRegion 203 = .ok (.iconst 1, 1) := by decide +kernel
theorem d_Model_checkRegion_204 : decode b_Model_checkRegion 204 = .ok (.isub, 1) := by decide +kernel
theorem d_Model_checkRegion_205 : decode b_Model_checkRegion 205 = .ok (.putfield 568, 3) := by decide +kernel
theorem d_Model_checkRegion_208 : decode b_Model_checkRegion 208 = .ok (.aload_n 0, 1) := by decide +kernel
theorem d_Model_checkRegion_209 : decode b_Model_checkRegion 209 = .ok (.dup, 1) := by decide +kernel
theorem d_Model_checkRegion_210 : decode b_Model_checkRegion 210 = .ok (.getfield 575, 3) := by decide +kernel
theorem d_Model_checkRegion_213 : decode b_Model_checkRegion 213 = .ok (.iconst 1, 1) := by decide +kernel
theorem d_Model_checkRegion_214 : decode b_Model_checkRegion 214 = .ok (.iload_n 3, 1) := by decide +kernel
theorem d_Model_checkRegion_215 : decode b_Model_checkRegion 215 = .ok (.ishl, 1) := by decide +kernel
theorem d_Model_checkRegion_216 : decode b_Model_checkRegion 216 = .ok (.iconst (-1), 1) := by decide +kernel
theorem d_Model_checkRegion_217 : decode b_Model_checkRegion 217 = .ok (.ixor, 1) := by decide +kernel
theorem d_Model_checkRegion_218 : decode b_Model_checkRegion 218 = .ok (.iand, 1) := by decide +kernel
theorem d_Model_checkRegion_219 : decode b_Model_checkRegion 219 = .ok (.putfield 575, 3) := by decide +kernel
theorem d_Model_checkRegion_222 : decode b_Model_checkRegion 222 = .ok (.return_, 1) := by decide +kernel
abbrev b_Model_checkClose : ByteArray := prog_14_method_86_code
abbrev y_Model_checkClose : MethodName := ⟨R_Model, "checkClose", "(I)V"⟩
theorem co_Model_checkClose : Cond.code y_Model_checkClose b_Model_checkClose 4 none ∈ lw_good := lg_in (tin_12 _ (List.mem_of_getElem? (i := 50) rfl)) rfl
abbrev w_Model_checkClose : List Cond := Cond.code y_Model_checkClose b_Model_checkClose 4 none :: lw_good
theorem im_Model_checkClose : Cond.instanceMethod y_Model_checkClose ∈ lw_good := lg_right (i := 2689) (by decide +kernel) rfl
theorem se_Model_checkClose : Cond.selects R_Model y_Model_checkClose y_Model_checkClose ∈ lw_good := lg_left (i := 199) (by decide +kernel) rfl
theorem d_Model_checkClose_0 : decode b_Model_checkClose 0 = .ok (.aload_n 0, 1) := by decide +kernel
theorem d_Model_checkClose_1 : decode b_Model_checkClose 1 = .ok (.aload_n 0, 1) := by decide +kernel
theorem d_Model_checkClose_2 : decode b_Model_checkClose 2 = .ok (.getfield 144, 3) := by decide +kernel
theorem d_Model_checkClose_5 : decode b_Model_checkClose 5 = .ok (.iload_n 1, 1) := by decide +kernel
theorem d_Model_checkClose_6 : decode b_Model_checkClose 6 = .ok (.iaload, 1) := by decide +kernel
theorem d_Model_checkClose_7 : decode b_Model_checkClose 7 = .ok (.invokevirtual 578, 3) := by decide +kernel
theorem d_Model_checkClose_10 : decode b_Model_checkClose 10 = .ok (.istore_n 2, 1) := by decide +kernel
theorem d_Model_checkClose_11 : decode b_Model_checkClose 11 = .ok (.aload_n 0, 1) := by decide +kernel
theorem d_Model_checkClose_12 : decode b_Model_checkClose 12 = .ok (.invokevirtual 385, 3) := by decide +kernel
theorem d_Model_checkClose_15 : decode b_Model_checkClose 15 = .ok (.ifCond .eq 4, 3) := by decide +kernel
theorem d_Model_checkClose_18 : decode b_Model_checkClose 18 = .ok (.return_, 1) := by decide +kernel
theorem d_Model_checkClose_19 : decode b_Model_checkClose 19 = .ok (.iload_n 2, 1) := by decide +kernel
theorem d_Model_checkClose_20 : decode b_Model_checkClose 20 = .ok (.iconst 4, 1) := by decide +kernel
theorem d_Model_checkClose_21 : decode b_Model_checkClose 21 = .ok (.if_icmp .lt 11, 3) := by decide +kernel
theorem d_Model_checkClose_24 : decode b_Model_checkClose 24 = .ok (.aload_n 0, 1) := by decide +kernel
theorem d_Model_checkClose_25 : decode b_Model_checkClose 25 = .ok (.iload_n 2, 1) := by decide +kernel
theorem d_Model_checkClose_26 : decode b_Model_checkClose 26 = .ok (.invokevirtual 581, 3) := by decide +kernel
theorem d_Model_checkClose_29 : decode b_Model_checkClose 29 = .ok (.ifCond .ne 16, 3) := by decide +kernel
theorem d_Model_checkClose_32 : decode b_Model_checkClose 32 = .ok (.aload_n 0, 1) := by decide +kernel
theorem d_Model_checkClose_33 : decode b_Model_checkClose 33 = .ok (.bipush 8, 2) := by decide +kernel
theorem d_Model_checkClose_35 : decode b_Model_checkClose 35 = .ok (.aload_n 0, 1) := by decide +kernel
theorem d_Model_checkClose_36 : decode b_Model_checkClose 36 = .ok (.getfield 123, 3) := by decide +kernel
theorem d_Model_checkClose_39 : decode b_Model_checkClose 39 = .ok (.iload_n 1, 1) := by decide +kernel
theorem d_Model_checkClose_40 : decode b_Model_checkClose 40 = .ok (.iaload, 1) := by decide +kernel
theorem d_Model_checkClose_41 : decode b_Model_checkClose 41 = .ok (.invokevirtual 381, 3) := by decide +kernel
theorem d_Model_checkClose_44 : decode b_Model_checkClose 44 = .ok (.return_, 1) := by decide +kernel
theorem d_Model_checkClose_45 : decode b_Model_checkClose 45 = .ok (.aload_n 0, 1) := by decide +kernel
theorem d_Model_checkClose_46 : decode b_Model_checkClose 46 = .ok (.getfield 634, 3) := by decide +kernel
theorem d_Model_checkClose_49 : decode b_Model_checkClose 49 = .ok (.iconst 1, 1) := by decide +kernel
theorem d_Model_checkClose_50 : decode b_Model_checkClose 50 = .ok (.isub, 1) := by decide +kernel
theorem d_Model_checkClose_51 : decode b_Model_checkClose 51 = .ok (.istore_n 3, 1) := by decide +kernel
theorem d_Model_checkClose_52 : decode b_Model_checkClose 52 = .ok (.iload_n 3, 1) := by decide +kernel
theorem d_Model_checkClose_53 : decode b_Model_checkClose 53 = .ok (.ifCond .lt 53, 3) := by decide +kernel
theorem d_Model_checkClose_56 : decode b_Model_checkClose 56 = .ok (.aload_n 0, 1) := by decide +kernel
theorem d_Model_checkClose_57 : decode b_Model_checkClose 57 = .ok (.getfield 189, 3) := by decide +kernel
theorem d_Model_checkClose_60 : decode b_Model_checkClose 60 = .ok (.iload_n 3, 1) := by decide +kernel
theorem d_Model_checkClose_61 : decode b_Model_checkClose 61 = .ok (.iaload, 1) := by decide +kernel
theorem d_Model_checkClose_62 : decode b_Model_checkClose 62 = .ok (.iload_n 2, 1) := by decide +kernel
theorem d_Model_checkClose_63 : decode b_Model_checkClose 63 = .ok (.if_icmp .eq 43, 3) := by decide +kernel
theorem d_Model_checkClose_66 : decode b_Model_checkClose 66 = .ok (.aload_n 0, 1) := by decide +kernel
theorem d_Model_checkClose_67 : decode b_Model_checkClose 67 = .ok (.getfield 189, 3) := by decide +kernel
theorem d_Model_checkClose_70 : decode b_Model_checkClose 70 = .ok (.iload_n 3, 1) := by decide +kernel
theorem d_Model_checkClose_71 : decode b_Model_checkClose 71 = .ok (.iaload, 1) := by decide +kernel
theorem d_Model_checkClose_72 : decode b_Model_checkClose 72 = .ok (.ifCond .lt 16, 3) := by decide +kernel
theorem d_Model_checkClose_75 : decode b_Model_checkClose 75 = .ok (.aload_n 0, 1) := by decide +kernel
theorem d_Model_checkClose_76 : decode b_Model_checkClose 76 = .ok (.aload_n 0, 1) := by decide +kernel
theorem d_Model_checkClose_77 : decode b_Model_checkClose 77 = .ok (.getfield 189, 3) := by decide +kernel
theorem d_Model_checkClose_80 : decode b_Model_checkClose 80 = .ok (.iload_n 3, 1) := by decide +kernel
theorem d_Model_checkClose_81 : decode b_Model_checkClose 81 = .ok (.iaload, 1) := by decide +kernel
theorem d_Model_checkClose_82 : decode b_Model_checkClose 82 = .ok (.invokevirtual 581, 3) := by decide +kernel
theorem d_Model_checkClose_85 : decode b_Model_checkClose 85 = .ok (.ifCond .eq 15, 3) := by decide +kernel
theorem d_Model_checkClose_88 : decode b_Model_checkClose 88 = .ok (.aload_n 0, 1) := by decide +kernel
theorem d_Model_checkClose_89 : decode b_Model_checkClose 89 = .ok (.bipush 8, 2) := by decide +kernel
theorem d_Model_checkClose_91 : decode b_Model_checkClose 91 = .ok (.aload_n 0, 1) := by decide +kernel
theorem d_Model_checkClose_92 : decode b_Model_checkClose 92 = .ok (.getfield 123, 3) := by decide +kernel
theorem d_Model_checkClose_95 : decode b_Model_checkClose 95 = .ok (.iload_n 1, 1) := by decide +kernel
theorem d_Model_checkClose_96 : decode b_Model_checkClose 96 = .ok (.iaload, 1) := by decide +kernel
theorem d_Model_checkClose_97 : decode b_Model_checkClose 97 = .ok (.invokevirtual 381, 3) := by decide +kernel
theorem d_Model_checkClose_100 : decode b_Model_checkClose 100 = .ok (.iinc 3 (-1), 3) := by decide +kernel
theorem d_Model_checkClose_103 : decode b_Model_checkClose 103 = .ok (.goto (-51), 3) := by decide +kernel
theorem d_Model_checkClose_106 : decode b_Model_checkClose 106 = .ok (.aload_n 0, 1) := by decide +kernel
theorem d_Model_checkClose_107 : decode b_Model_checkClose 107 = .ok (.dup, 1) := by decide +kernel
theorem d_Model_checkClose_108 : decode b_Model_checkClose 108 = .ok (.getfield 575, 3) := by decide +kernel
theorem d_Model_checkClose_111 : decode b_Model_checkClose 111 = .ok (.iconst 1, 1) := by decide +kernel
theorem d_Model_checkClose_112 : decode b_Model_checkClose 112 = .ok (.iload_n 2, 1) := by decide +kernel
theorem d_Model_checkClose_113 : decode b_Model_checkClose 113 = .ok (.ishl, 1) := by decide +kernel
theorem d_Model_checkClose_114 : decode b_Model_checkClose 114 = .ok (.iconst (-1), 1) := by decide +kernel
theorem d_Model_checkClose_115 : decode b_Model_checkClose 115 = .ok (.ixor, 1) := by decide +kernel
theorem d_Model_checkClose_116 : decode b_Model_checkClose 116 = .ok (.iand, 1) := by decide +kernel
theorem d_Model_checkClose_117 : decode b_Model_checkClose 117 = .ok (.putfield 575, 3) := by decide +kernel
theorem d_Model_checkClose_120 : decode b_Model_checkClose 120 = .ok (.return_, 1) := by decide +kernel
abbrev b_Model_checkTry : ByteArray := prog_14_method_87_code
abbrev y_Model_checkTry : MethodName := ⟨R_Model, "checkTry", "(I)V"⟩
theorem co_Model_checkTry : Cond.code y_Model_checkTry b_Model_checkTry 11 none ∈ lw_good := lg_in (tin_12 _ (List.mem_of_getElem? (i := 54) rfl)) rfl
abbrev w_Model_checkTry : List Cond := Cond.code y_Model_checkTry b_Model_checkTry 11 none :: lw_good
theorem im_Model_checkTry : Cond.instanceMethod y_Model_checkTry ∈ lw_good := lg_right (i := 2693) (by decide +kernel) rfl
theorem se_Model_checkTry : Cond.selects R_Model y_Model_checkTry y_Model_checkTry ∈ lw_good := lg_left (i := 200) (by decide +kernel) rfl
theorem d_Model_checkTry_0 : decode b_Model_checkTry 0 = .ok (.aload_n 0, 1) := by decide +kernel
theorem d_Model_checkTry_1 : decode b_Model_checkTry 1 = .ok (.aload_n 0, 1) := by decide +kernel
theorem d_Model_checkTry_2 : decode b_Model_checkTry 2 = .ok (.getfield 126, 3) := by decide +kernel
theorem d_Model_checkTry_5 : decode b_Model_checkTry 5 = .ok (.iload_n 1, 1) := by decide +kernel
theorem d_Model_checkTry_6 : decode b_Model_checkTry 6 = .ok (.iaload, 1) := by decide +kernel
theorem d_Model_checkTry_7 : decode b_Model_checkTry 7 = .ok (.invokevirtual 715, 3) := by decide +kernel
theorem d_Model_checkTry_10 : decode b_Model_checkTry 10 = .ok (.istore_n 2, 1) := by decide +kernel
theorem d_Model_checkTry_11 : decode b_Model_checkTry 11 = .ok (.aload_n 0, 1) := by decide +kernel
theorem d_Model_checkTry_12 : decode b_Model_checkTry 12 = .ok (.getfield 624, 3) := by decide +kernel
theorem d_Model_checkTry_15 : decode b_Model_checkTry 15 = .ok (.istore_n 3, 1) := by decide +kernel
theorem d_Model_checkTry_16 : decode b_Model_checkTry 16 = .ok (.aload_n 0, 1) := by decide +kernel
theorem d_Model_checkTry_17 : decode b_Model_checkTry 17 = .ok (.getfield 627, 3) := by decide +kernel
theorem d_Model_checkTry_20 : decode b_Model_checkTry 20 = .ok (.istore 4, 2) := by decide +kernel
theorem d_Model_checkTry_22 : decode b_Model_checkTry 22 = .ok (.aload_n 0, 1) := by decide +kernel
theorem d_Model_checkTry_23 : decode b_Model_checkTry 23 = .ok (.getfield 575, 3) := by decide +kernel
theorem d_Model_checkTry_26 : decode b_Model_checkTry 26 = .ok (.istore 5, 2) := by decide +kernel
theorem d_Model_checkTry_28 : decode b_Model_checkTry 28 = .ok (.aload_n 0, 1) := by decide +kernel
theorem d_Model_checkTry_29 : decode b_Model_checkTry 29 = .ok (.getfield 630, 3) := by decide +kernel
theorem d_Model_checkTry_32 : decode b_Model_checkTry 32 = .ok (.istore 6, 2) := by decide +kernel
theorem d_Model_checkTry_34 : decode b_Model_checkTry 34 = .ok (.aload_n 0, 1) := by decide +kernel
theorem d_Model_checkTry_35 : decode b_Model_checkTry 35 = .ok (.getfield 189, 3) := by decide +kernel
theorem d_Model_checkTry_38 : decode b_Model_checkTry 38 = .ok (.aload_n 0, 1) := by decide +kernel
theorem d_Model_checkTry_39 : decode b_Model_checkTry 39 = .ok (.getfield 634, 3) := by decide +kernel
theorem d_Model_checkTry_42 : decode b_Model_checkTry 42 = .ok (.iconst (-1), 1) := by decide +kernel
theorem d_Model_checkTry_43 : decode b_Model_checkTry 43 = .ok (.iastore, 1) := by decide +kernel
theorem d_Model_checkTry_44 : decode b_Model_checkTry 44 = .ok (.aload_n 0, 1) := by decide +kernel
theorem d_Model_checkTry_45 : decode b_Model_checkTry 45 = .ok (.dup, 1) := by decide +kernel
theorem d_Model_checkTry_46 : decode b_Model_checkTry 46 = .ok (.getfield 634, 3) := by decide +kernel
theorem d_Model_checkTry_49 : decode b_Model_checkTry 49 = .ok (.iconst 1, 1) := by decide +kernel
theorem d_Model_checkTry_50 : decode b_Model_checkTry 50 = .ok (.iadd, 1) := by decide +kernel
theorem d_Model_checkTry_51 : decode b_Model_checkTry 51 = .ok (.putfield 634, 3) := by decide +kernel
theorem d_Model_checkTry_54 : decode b_Model_checkTry 54 = .ok (.aload_n 0, 1) := by decide +kernel
theorem d_Model_checkTry_55 : decode b_Model_checkTry 55 = .ok (.aload_n 0, 1) := by decide +kernel
theorem d_Model_checkTry_56 : decode b_Model_checkTry 56 = .ok (.getfield 126, 3) := by decide +kernel
theorem d_Model_checkTry_59 : decode b_Model_checkTry 59 = .ok (.iload_n 1, 1) := by decide +kernel
theorem d_Model_checkTry_60 : decode b_Model_checkTry 60 = .ok (.iaload, 1) := by decide +kernel
theorem d_Model_checkTry_61 : decode b_Model_checkTry 61 = .ok (.invokevirtual 646, 3) := by decide +kernel
theorem d_Model_checkTry_64 : decode b_Model_checkTry 64 = .ok (.aload_n 0, 1) := by decide +kernel
theorem d_Model_checkTry_65 : decode b_Model_checkTry 65 = .ok (.dup, 1) := by decide +kernel
theorem d_Model_checkTry_66 : decode b_Model_checkTry 66 = .ok (.getfield 634, 3) := by decide +kernel
theorem d_Model_checkTry_69 : decode b_Model_checkTry 69 = .ok (.iconst 1, 1) := by decide +kernel
theorem d_Model_checkTry_70 : decode b_Model_checkTry 70 = .ok (.isub, 1) := by decide +kernel
theorem d_Model_checkTry_71 : decode b_Model_checkTry 71 = .ok (.putfield 634, 3) := by decide +kernel
theorem d_Model_checkTry_74 : decode b_Model_checkTry 74 = .ok (.aload_n 0, 1) := by decide +kernel
theorem d_Model_checkTry_75 : decode b_Model_checkTry 75 = .ok (.invokevirtual 385, 3) := by decide +kernel
theorem d_Model_checkTry_78 : decode b_Model_checkTry 78 = .ok (.ifCond .eq 4, 3) := by decide +kernel
theorem d_Model_checkTry_81 : decode b_Model_checkTry 81 = .ok (.return_, 1) := by decide +kernel
theorem d_Model_checkTry_82 : decode b_Model_checkTry 82 = .ok (.aload_n 0, 1) := by decide +kernel
theorem d_Model_checkTry_83 : decode b_Model_checkTry 83 = .ok (.getfield 624, 3) := by decide +kernel
theorem d_Model_checkTry_86 : decode b_Model_checkTry 86 = .ok (.istore 7, 2) := by decide +kernel
theorem d_Model_checkTry_88 : decode b_Model_checkTry 88 = .ok (.aload_n 0, 1) := by decide +kernel
theorem d_Model_checkTry_89 : decode b_Model_checkTry 89 = .ok (.getfield 627, 3) := by decide +kernel
theorem d_Model_checkTry_92 : decode b_Model_checkTry 92 = .ok (.istore 8, 2) := by decide +kernel
theorem d_Model_checkTry_94 : decode b_Model_checkTry 94 = .ok (.aload_n 0, 1) := by decide +kernel
theorem d_Model_checkTry_95 : decode b_Model_checkTry 95 = .ok (.getfield 575, 3) := by decide +kernel
theorem d_Model_checkTry_98 : decode b_Model_checkTry 98 = .ok (.istore 9, 2) := by decide +kernel
theorem d_Model_checkTry_100 : decode b_Model_checkTry 100 = .ok (.aload_n 0, 1) := by decide +kernel
theorem d_Model_checkTry_101 : decode b_Model_checkTry 101 = .ok (.getfield 630, 3) := by decide +kernel
theorem d_Model_checkTry_104 : decode b_Model_checkTry 104 = .ok (.istore 10, 2) := by decide +kernel
theorem d_Model_checkTry_106 : decode b_Model_checkTry 106 = .ok (.aload_n 0, 1) := by decide +kernel
theorem d_Model_checkTry_107 : decode b_Model_checkTry 107 = .ok (.iload_n 3, 1) := by decide +kernel
theorem d_Model_checkTry_108 : decode b_Model_checkTry 108 = .ok (.putfield 624, 3) := by decide +kernel
theorem d_Model_checkTry_111 : decode b_Model_checkTry 111 = .ok (.aload_n 0, 1) := by decide +kernel
theorem d_Model_checkTry_112 : decode b_Model_checkTry 112 = .ok (.iload 6, 2) := by decide +kernel
theorem d_Model_checkTry_114 : decode b_Model_checkTry 114 = .ok (.ifCond .eq 12, 3) := by decide +kernel
theorem d_Model_checkTry_117 : decode b_Model_checkTry 117 = .ok (.iload 4, 2) := by decide +kernel
theorem d_Model_checkTry_119 : decode b_Model_checkTry 119 = .ok (.iload_n 2, 1) := by decide +kernel
theorem d_Model_checkTry_120 : decode b_Model_checkTry 120 = .ok (.iconst (-1), 1) := by decide +kernel
theorem d_Model_checkTry_121 : decode b_Model_checkTry 121 = .ok (.ixor, 1) := by decide +kernel
theorem d_Model_checkTry_122 : decode b_Model_checkTry 122 = .ok (.iand, 1) := by decide +kernel
theorem d_Model_checkTry_123 : decode b_Model_checkTry 123 = .ok (.goto 5, 3) := by decide +kernel
theorem d_Model_checkTry_126 : decode b_Model_checkTry 126 = .ok (.iload 4, 2) := by decide +kernel
theorem d_Model_checkTry_128 : decode b_Model_checkTry 128 = .ok (.putfield 627, 3) := by decide +kernel
theorem d_Model_checkTry_131 : decode b_Model_checkTry 131 = .ok (.aload_n 0, 1) := by decide +kernel
theorem d_Model_checkTry_132 : decode b_Model_checkTry 132 = .ok (.iload 5, 2) := by decide +kernel
theorem d_Model_checkTry_134 : decode b_Model_checkTry 134 = .ok (.putfield 575, 3) := by decide +kernel
theorem d_Model_checkTry_137 : decode b_Model_checkTry 137 = .ok (.aload_n 0, 1) := by decide +kernel
theorem d_Model_checkTry_138 : decode b_Model_checkTry 138 = .ok (.iload 6, 2) := by decide +kernel
theorem d_Model_checkTry_140 : decode b_Model_checkTry 140 = .ok (.putfield 630, 3) := by decide +kernel
theorem d_Model_checkTry_143 : decode b_Model_checkTry 143 = .ok (.aload_n 0, 1) := by decide +kernel
theorem d_Model_checkTry_144 : decode b_Model_checkTry 144 = .ok (.dup, 1) := by decide +kernel
theorem d_Model_checkTry_145 : decode b_Model_checkTry 145 = .ok (.getfield 640, 3) := by decide +kernel
theorem d_Model_checkTry_148 : decode b_Model_checkTry 148 = .ok (.iconst 1, 1) := by decide +kernel
theorem d_Model_checkTry_149 : decode b_Model_checkTry 149 = .ok (.iadd, 1) := by decide +kernel
theorem d_Model_checkTry_150 : decode b_Model_checkTry 150 = .ok (.putfield 640, 3) := by decide +kernel
theorem d_Model_checkTry_153 : decode b_Model_checkTry 153 = .ok (.aload_n 0, 1) := by decide +kernel
theorem d_Model_checkTry_154 : decode b_Model_checkTry 154 = .ok (.getfield 153, 3) := by decide +kernel
theorem d_Model_checkTry_157 : decode b_Model_checkTry 157 = .ok (.iload_n 1, 1) := by decide +kernel
theorem d_Model_checkTry_158 : decode b_Model_checkTry 158 = .ok (.aload_n 0, 1) := by decide +kernel
theorem d_Model_checkTry_159 : decode b_Model_checkTry 159 = .ok (.getfield 640, 3) := by decide +kernel
theorem d_Model_checkTry_162 : decode b_Model_checkTry 162 = .ok (.iastore, 1) := by decide +kernel
theorem d_Model_checkTry_163 : decode b_Model_checkTry 163 = .ok (.aload_n 0, 1) := by decide +kernel
theorem d_Model_checkTry_164 : decode b_Model_checkTry 164 = .ok (.aload_n 0, 1) := by decide +kernel
theorem d_Model_checkTry_165 : decode b_Model_checkTry 165 = .ok (.getfield 129, 3) := by decide +kernel
theorem d_Model_checkTry_168 : decode b_Model_checkTry 168 = .ok (.iload_n 1, 1) := by decide +kernel
theorem d_Model_checkTry_169 : decode b_Model_checkTry 169 = .ok (.iaload, 1) := by decide +kernel
theorem d_Model_checkTry_170 : decode b_Model_checkTry 170 = .ok (.invokevirtual 646, 3) := by decide +kernel
theorem d_Model_checkTry_173 : decode b_Model_checkTry 173 = .ok (.aload_n 0, 1) := by decide +kernel
theorem d_Model_checkTry_174 : decode b_Model_checkTry 174 = .ok (.dup, 1) := by decide +kernel
theorem d_Model_checkTry_175 : decode b_Model_checkTry 175 = .ok (.getfield 640, 3) := by decide +kernel
theorem d_Model_checkTry_178 : decode b_Model_checkTry 178 = .ok (.iconst 1, 1) := by decide +kernel
theorem d_Model_checkTry_179 : decode b_Model_checkTry 179 = .ok (.isub, 1) := by decide +kernel
theorem d_Model_checkTry_180 : decode b_Model_checkTry 180 = .ok (.putfield 640, 3) := by decide +kernel
theorem d_Model_checkTry_183 : decode b_Model_checkTry 183 = .ok (.aload_n 0, 1) := by decide +kernel
theorem d_Model_checkTry_184 : decode b_Model_checkTry 184 = .ok (.invokevirtual 385, 3) := by decide +kernel
theorem d_Model_checkTry_187 : decode b_Model_checkTry 187 = .ok (.ifCond .ne 21, 3) := by decide +kernel
theorem d_Model_checkTry_190 : decode b_Model_checkTry 190 = .ok (.aload_n 0, 1) := by decide +kernel
theorem d_Model_checkTry_191 : decode b_Model_checkTry 191 = .ok (.iload 7, 2) := by decide +kernel
theorem d_Model_checkTry_193 : decode b_Model_checkTry 193 = .ok (.iload 8, 2) := by decide +kernel
theorem d_Model_checkTry_195 : decode b_Model_checkTry 195 = .ok (.iload 9, 2) := by decide +kernel
theorem d_Model_checkTry_197 : decode b_Model_checkTry 197 = .ok (.iload 10, 2) := by decide +kernel
theorem d_Model_checkTry_199 : decode b_Model_checkTry 199 = .ok (.aload_n 0, 1) := by decide +kernel
theorem d_Model_checkTry_200 : decode b_Model_checkTry 200 = .ok (.getfield 123, 3) := by decide +kernel
theorem d_Model_checkTry_203 : decode b_Model_checkTry 203 = .ok (.iload_n 1, 1) := by decide +kernel
theorem d_Model_checkTry_204 : decode b_Model_checkTry 204 = .ok (.iaload, 1) := by decide +kernel
theorem d_Model_checkTry_205 : decode b_Model_checkTry 205 = .ok (.invokevirtual 711, 3) := by decide +kernel
theorem d_Model_checkTry_208 : decode b_Model_checkTry 208 = .ok (.return_, 1) := by decide +kernel
abbrev b_Model_checkSet : ByteArray := prog_14_method_76_code
abbrev y_Model_checkSet : MethodName := ⟨R_Model, "checkSet", "(I)V"⟩
theorem co_Model_checkSet : Cond.code y_Model_checkSet b_Model_checkSet 5 none ∈ lw_good := lg_in (tin_12 _ (List.mem_of_getElem? (i := 58) rfl)) rfl
abbrev w_Model_checkSet : List Cond := Cond.code y_Model_checkSet b_Model_checkSet 5 none :: lw_good
theorem im_Model_checkSet : Cond.instanceMethod y_Model_checkSet ∈ lw_good := lg_right (i := 2697) (by decide +kernel) rfl
theorem se_Model_checkSet : Cond.selects R_Model y_Model_checkSet y_Model_checkSet ∈ lw_good := lg_left (i := 201) (by decide +kernel) rfl
theorem d_Model_checkSet_0 : decode b_Model_checkSet 0 = .ok (.aload_n 0, 1) := by decide +kernel
theorem d_Model_checkSet_1 : decode b_Model_checkSet 1 = .ok (.aload_n 0, 1) := by decide +kernel
theorem d_Model_checkSet_2 : decode b_Model_checkSet 2 = .ok (.getfield 129, 3) := by decide +kernel
theorem d_Model_checkSet_5 : decode b_Model_checkSet 5 = .ok (.iload_n 1, 1) := by decide +kernel
theorem d_Model_checkSet_6 : decode b_Model_checkSet 6 = .ok (.iaload, 1) := by decide +kernel
theorem d_Model_checkSet_7 : decode b_Model_checkSet 7 = .ok (.invokevirtual 652, 3) := by decide +kernel
theorem d_Model_checkSet_10 : decode b_Model_checkSet 10 = .ok (.istore_n 2, 1) := by decide +kernel
theorem d_Model_checkSet_11 : decode b_Model_checkSet 11 = .ok (.aload_n 0, 1) := by decide +kernel
theorem d_Model_checkSet_12 : decode b_Model_checkSet 12 = .ok (.invokevirtual 385, 3) := by decide +kernel
theorem d_Model_checkSet_15 : decode b_Model_checkSet 15 = .ok (.ifCond .eq 4, 3) := by decide +kernel
theorem d_Model_checkSet_18 : decode b_Model_checkSet 18 = .ok (.return_, 1) := by decide +kernel
theorem d_Model_checkSet_19 : decode b_Model_checkSet 19 = .ok (.aload_n 0, 1) := by decide +kernel
theorem d_Model_checkSet_20 : decode b_Model_checkSet 20 = .ok (.getfield 126, 3) := by decide +kernel
theorem d_Model_checkSet_23 : decode b_Model_checkSet 23 = .ok (.iload_n 1, 1) := by decide +kernel
theorem d_Model_checkSet_24 : decode b_Model_checkSet 24 = .ok (.iaload, 1) := by decide +kernel
theorem d_Model_checkSet_25 : decode b_Model_checkSet 25 = .ok (.istore_n 3, 1) := by decide +kernel
theorem d_Model_checkSet_26 : decode b_Model_checkSet 26 = .ok (.aload_n 0, 1) := by decide +kernel
theorem d_Model_checkSet_27 : decode b_Model_checkSet 27 = .ok (.getfield 120, 3) := by decide +kernel
theorem d_Model_checkSet_30 : decode b_Model_checkSet 30 = .ok (.iload_n 3, 1) := by decide +kernel
theorem d_Model_checkSet_31 : decode b_Model_checkSet 31 = .ok (.iaload, 1) := by decide +kernel
theorem d_Model_checkSet_32 : decode b_Model_checkSet 32 = .ok (.iconst 4, 1) := by decide +kernel
theorem d_Model_checkSet_33 : decode b_Model_checkSet 33 = .ok (.if_icmp .ne 123, 3) := by decide +kernel
theorem d_Model_checkSet_36 : decode b_Model_checkSet 36 = .ok (.aload_n 0, 1) := by decide +kernel
theorem d_Model_checkSet_37 : decode b_Model_checkSet 37 = .ok (.aload_n 0, 1) := by decide +kernel
theorem d_Model_checkSet_38 : decode b_Model_checkSet 38 = .ok (.getfield 138, 3) := by decide +kernel
theorem d_Model_checkSet_41 : decode b_Model_checkSet 41 = .ok (.iload_n 3, 1) := by decide +kernel
theorem d_Model_checkSet_42 : decode b_Model_checkSet 42 = .ok (.laload, 1) := by decide +kernel
theorem d_Model_checkSet_43 : decode b_Model_checkSet 43 = .ok (.invokevirtual 691, 3) := by decide +kernel
theorem d_Model_checkSet_46 : decode b_Model_checkSet 46 = .ok (.istore 4, 2) := by decide +kernel
theorem d_Model_checkSet_48 : decode b_Model_checkSet 48 = .ok (.iload 4, 2) := by decide +kernel
theorem d_Model_checkSet_50 : decode b_Model_checkSet 50 = .ok (.ifCond .ge 14, 3) := by decide +kernel
theorem d_Model_checkSet_53 : decode b_Model_checkSet 53 = .ok (.aload_n 0, 1) := by decide +kernel
theorem d_Model_checkSet_54 : decode b_Model_checkSet 54 = .ok (.iconst 3, 1) := by decide +kernel
theorem d_Model_checkSet_55 : decode b_Model_checkSet 55 = .ok (.aload_n 0, 1) := by decide +kernel
theorem d_Model_checkSet_56 : decode b_Model_checkSet 56 = .ok (.getfield 123, 3) := by decide +kernel
theorem d_Model_checkSet_59 : decode b_Model_checkSet 59 = .ok (.iload_n 3, 1) := by decide +kernel
theorem d_Model_checkSet_60 : decode b_Model_checkSet 60 = .ok (.iaload, 1) := by decide +kernel
theorem d_Model_checkSet_61 : decode b_Model_checkSet 61 = .ok (.invokevirtual 381, 3) := by decide +kernel
theorem d_Model_checkSet_64 : decode b_Model_checkSet 64 = .ok (.aload_n 0, 1) := by decide +kernel
theorem d_Model_checkSet_65 : decode b_Model_checkSet 65 = .ok (.invokevirtual 385, 3) := by decide +kernel
theorem d_Model_checkSet_68 : decode b_Model_checkSet 68 = .ok (.ifCond .eq 4, 3) := by decide +kernel
theorem d_Model_checkSet_71 : decode b_Model_checkSet 71 = .ok (.return_, 1) := by decide +kernel
theorem d_Model_checkSet_72 : decode b_Model_checkSet 72 = .ok (.aload_n 0, 1) := by decide +kernel
theorem d_Model_checkSet_73 : decode b_Model_checkSet 73 = .ok (.iload_n 2, 1) := by decide +kernel
theorem d_Model_checkSet_74 : decode b_Model_checkSet 74 = .ok (.aload_n 0, 1) := by decide +kernel
theorem d_Model_checkSet_75 : decode b_Model_checkSet 75 = .ok (.getfield 186, 3) := by decide +kernel
theorem d_Model_checkSet_78 : decode b_Model_checkSet 78 = .ok (.iload 4, 2) := by decide +kernel
theorem d_Model_checkSet_80 : decode b_Model_checkSet 80 = .ok (.iaload, 1) := by decide +kernel
theorem d_Model_checkSet_81 : decode b_Model_checkSet 81 = .ok (.aload_n 0, 1) := by decide +kernel
theorem d_Model_checkSet_82 : decode b_Model_checkSet 82 = .ok (.getfield 123, 3) := by decide +kernel
theorem d_Model_checkSet_85 : decode b_Model_checkSet 85 = .ok (.aload_n 0, 1) := by decide +kernel
theorem d_Model_checkSet_86 : decode b_Model_checkSet 86 = .ok (.getfield 129, 3) := by decide +kernel
theorem d_Model_checkSet_89 : decode b_Model_checkSet 89 = .ok (.iload_n 1, 1) := by decide +kernel
theorem d_Model_checkSet_90 : decode b_Model_checkSet 90 = .ok (.iaload, 1) := by decide +kernel
theorem d_Model_checkSet_91 : decode b_Model_checkSet 91 = .ok (.iaload, 1) := by decide +kernel
theorem d_Model_checkSet_92 : decode b_Model_checkSet 92 = .ok (.invokevirtual 688, 3) := by decide +kernel
theorem d_Model_checkSet_95 : decode b_Model_checkSet 95 = .ok (.aload_n 0, 1) := by decide +kernel
theorem d_Model_checkSet_96 : decode b_Model_checkSet 96 = .ok (.getfield 153, 3) := by decide +kernel
theorem d_Model_checkSet_99 : decode b_Model_checkSet 99 = .ok (.iload_n 3, 1) := by decide +kernel
theorem d_Model_checkSet_100 : decode b_Model_checkSet 100 = .ok (.aload_n 0, 1) := by decide +kernel
theorem d_Model_checkSet_101 : decode b_Model_checkSet 101 = .ok (.getfield 183, 3) := by decide +kernel
theorem d_Model_checkSet_104 : decode b_Model_checkSet 104 = .ok (.iload 4, 2) := by decide +kernel
theorem d_Model_checkSet_106 : decode b_Model_checkSet 106 = .ok (.iaload, 1) := by decide +kernel
theorem d_Model_checkSet_107 : decode b_Model_checkSet 107 = .ok (.iastore, 1) := by decide +kernel
theorem d_Model_checkSet_108 : decode b_Model_checkSet 108 = .ok (.aload_n 0, 1) := by decide +kernel
theorem d_Model_checkSet_109 : decode b_Model_checkSet 109 = .ok (.getfield 150, 3) := by decide +kernel
theorem d_Model_checkSet_112 : decode b_Model_checkSet 112 = .ok (.iload_n 3, 1) := by decide +kernel
theorem d_Model_checkSet_113 : decode b_Model_checkSet 113 = .ok (.aload_n 0, 1) := by decide +kernel
theorem d_Model_checkSet_114 : decode b_Model_checkSet 114 = .ok (.getfield 186, 3) := by decide +kernel
theorem d_Model_checkSet_117 : decode b_Model_checkSet 117 = .ok (.iload 4, 2) := by decide +kernel
theorem d_Model_checkSet_119 : decode b_Model_checkSet 119 = .ok (.iaload, 1) := by decide +kernel
theorem d_Model_checkSet_120 : decode b_Model_checkSet 120 = .ok (.iastore, 1) := by decide +kernel
theorem d_Model_checkSet_121 : decode b_Model_checkSet 121 = .ok (.aload_n 0, 1) := by decide +kernel
theorem d_Model_checkSet_122 : decode b_Model_checkSet 122 = .ok (.invokevirtual 385, 3) := by decide +kernel
theorem d_Model_checkSet_125 : decode b_Model_checkSet 125 = .ok (.ifCond .ne 30, 3) := by decide +kernel
theorem d_Model_checkSet_128 : decode b_Model_checkSet 128 = .ok (.aload_n 0, 1) := by decide +kernel
theorem d_Model_checkSet_129 : decode b_Model_checkSet 129 = .ok (.getfield 630, 3) := by decide +kernel
theorem d_Model_checkSet_132 : decode b_Model_checkSet 132 = .ok (.ifCond .eq 23, 3) := by decide +kernel
theorem d_Model_checkSet_135 : decode b_Model_checkSet 135 = .ok (.aload_n 0, 1) := by decide +kernel
theorem d_Model_checkSet_136 : decode b_Model_checkSet 136 = .ok (.aload_n 0, 1) := by decide +kernel
theorem d_Model_checkSet_137 : decode b_Model_checkSet 137 = .ok (.getfield 183, 3) := by decide +kernel
theorem d_Model_checkSet_140 : decode b_Model_checkSet 140 = .ok (.iload 4, 2) := by decide +kernel
theorem d_Model_checkSet_142 : decode b_Model_checkSet 142 = .ok (.iaload, 1) := by decide +kernel
theorem d_Model_checkSet_143 : decode b_Model_checkSet 143 = .ok (.aload_n 0, 1) := by decide +kernel
theorem d_Model_checkSet_144 : decode b_Model_checkSet 144 = .ok (.getfield 186, 3) := by decide +kernel
theorem d_Model_checkSet_147 : decode b_Model_checkSet 147 = .ok (.iload 4, 2) := by decide +kernel
theorem d_Model_checkSet_149 : decode b_Model_checkSet 149 = .ok (.iaload, 1) := by decide +kernel
theorem d_Model_checkSet_150 : decode b_Model_checkSet 150 = .ok (.iload_n 2, 1) := by decide +kernel
theorem d_Model_checkSet_151 : decode b_Model_checkSet 151 = .ok (.iconst 1, 1) := by decide +kernel
theorem d_Model_checkSet_152 : decode b_Model_checkSet 152 = .ok (.invokevirtual 694, 3) := by decide +kernel
theorem d_Model_checkSet_155 : decode b_Model_checkSet 155 = .ok (.return_, 1) := by decide +kernel
theorem d_Model_checkSet_156 : decode b_Model_checkSet 156 = .ok (.aload_n 0, 1) := by decide +kernel
theorem d_Model_checkSet_157 : decode b_Model_checkSet 157 = .ok (.getfield 120, 3) := by decide +kernel
theorem d_Model_checkSet_160 : decode b_Model_checkSet 160 = .ok (.iload_n 3, 1) := by decide +kernel
theorem d_Model_checkSet_161 : decode b_Model_checkSet 161 = .ok (.iaload, 1) := by decide +kernel
theorem d_Model_checkSet_162 : decode b_Model_checkSet 162 = .ok (.bipush 14, 2) := by decide +kernel
theorem d_Model_checkSet_164 : decode b_Model_checkSet 164 = .ok (.if_icmp .eq 37, 3) := by decide +kernel
theorem d_Model_checkSet_167 : decode b_Model_checkSet 167 = .ok (.aload_n 0, 1) := by decide +kernel
theorem d_Model_checkSet_168 : decode b_Model_checkSet 168 = .ok (.getfield 120, 3) := by decide +kernel
theorem d_Model_checkSet_171 : decode b_Model_checkSet 171 = .ok (.iload_n 3, 1) := by decide +kernel
theorem d_Model_checkSet_172 : decode b_Model_checkSet 172 = .ok (.iaload, 1) := by decide +kernel
theorem d_Model_checkSet_173 : decode b_Model_checkSet 173 = .ok (.bipush 15, 2) := by decide +kernel
theorem d_Model_checkSet_175 : decode b_Model_checkSet 175 = .ok (.if_icmp .eq 26, 3) := by decide +kernel
theorem d_Model_checkSet_178 : decode b_Model_checkSet 178 = .ok (.aload_n 0, 1) := by decide +kernel
theorem d_Model_checkSet_179 : decode b_Model_checkSet 179 = .ok (.getfield 120, 3) := by decide +kernel
theorem d_Model_checkSet_182 : decode b_Model_checkSet 182 = .ok (.iload_n 3, 1) := by decide +kernel
theorem d_Model_checkSet_183 : decode b_Model_checkSet 183 = .ok (.iaload, 1) := by decide +kernel
theorem d_Model_checkSet_184 : decode b_Model_checkSet 184 = .ok (.bipush 16, 2) := by decide +kernel
theorem d_Model_checkSet_186 : decode b_Model_checkSet 186 = .ok (.if_icmp .eq 15, 3) := by decide +kernel
theorem d_Model_checkSet_189 : decode b_Model_checkSet 189 = .ok (.aload_n 0, 1) := by decide +kernel
theorem d_Model_checkSet_190 : decode b_Model_checkSet 190 = .ok (.iconst 4, 1) := by decide +kernel
theorem d_Model_checkSet_191 : decode b_Model_checkSet 191 = .ok (.aload_n 0, 1) := by decide +kernel
theorem d_Model_checkSet_192 : decode b_Model_checkSet 192 = .ok (.getfield 123, 3) := by decide +kernel
theorem d_Model_checkSet_195 : decode b_Model_checkSet 195 = .ok (.iload_n 3, 1) := by decide +kernel
theorem d_Model_checkSet_196 : decode b_Model_checkSet 196 = .ok (.iaload, 1) := by decide +kernel
theorem d_Model_checkSet_197 : decode b_Model_checkSet 197 = .ok (.invokevirtual 381, 3) := by decide +kernel
theorem d_Model_checkSet_200 : decode b_Model_checkSet 200 = .ok (.return_, 1) := by decide +kernel
theorem d_Model_checkSet_201 : decode b_Model_checkSet 201 = .ok (.aload_n 0, 1) := by decide +kernel
theorem d_Model_checkSet_202 : decode b_Model_checkSet 202 = .ok (.iload_n 3, 1) := by decide +kernel
theorem d_Model_checkSet_203 : decode b_Model_checkSet 203 = .ok (.invokevirtual 652, 3) := by decide +kernel
theorem d_Model_checkSet_206 : decode b_Model_checkSet 206 = .ok (.istore 4, 2) := by decide +kernel
theorem d_Model_checkSet_208 : decode b_Model_checkSet 208 = .ok (.aload_n 0, 1) := by decide +kernel
theorem d_Model_checkSet_209 : decode b_Model_checkSet 209 = .ok (.invokevirtual 385, 3) := by decide +kernel
theorem d_Model_checkSet_212 : decode b_Model_checkSet 212 = .ok (.ifCond .ne 49, 3) := by decide +kernel
theorem d_Model_checkSet_215 : decode b_Model_checkSet 215 = .ok (.aload_n 0, 1) := by decide +kernel
theorem d_Model_checkSet_216 : decode b_Model_checkSet 216 = .ok (.getfield 120, 3) := by decide +kernel
theorem d_Model_checkSet_219 : decode b_Model_checkSet 219 = .ok (.iload_n 3, 1) := by decide +kernel
theorem d_Model_checkSet_220 : decode b_Model_checkSet 220 = .ok (.iaload, 1) := by decide +kernel
theorem d_Model_checkSet_221 : decode b_Model_checkSet 221 = .ok (.bipush 14, 2) := by decide +kernel
theorem d_Model_checkSet_223 : decode b_Model_checkSet 223 = .ok (.if_icmp .ne 38, 3) := by decide +kernel
theorem d_Model_checkSet_226 : decode b_Model_checkSet 226 = .ok (.aload_n 0, 1) := by decide +kernel
theorem d_Model_checkSet_227 : decode b_Model_checkSet 227 = .ok (.getfield 17, 3) := by decide +kernel
theorem d_Model_checkSet_230 : decode b_Model_checkSet 230 = .ok (.aload_n 0, 1) := by decide +kernel
theorem d_Model_checkSet_231 : decode b_Model_checkSet 231 = .ok (.getfield 165, 3) := by decide +kernel
theorem d_Model_checkSet_234 : decode b_Model_checkSet 234 = .ok (.aload_n 0, 1) := by decide +kernel
theorem d_Model_checkSet_235 : decode b_Model_checkSet 235 = .ok (.getfield 150, 3) := by decide +kernel
theorem d_Model_checkSet_238 : decode b_Model_checkSet 238 = .ok (.aload_n 0, 1) := by decide +kernel
theorem d_Model_checkSet_239 : decode b_Model_checkSet 239 = .ok (.getfield 126, 3) := by decide +kernel
theorem d_Model_checkSet_242 : decode b_Model_checkSet 242 = .ok (.iload_n 3, 1) := by decide +kernel
theorem d_Model_checkSet_243 : decode b_Model_checkSet 243 = .ok (.iaload, 1) := by decide +kernel
theorem d_Model_checkSet_244 : decode b_Model_checkSet 244 = .ok (.iaload, 1) := by decide +kernel
theorem d_Model_checkSet_245 : decode b_Model_checkSet 245 = .ok (.iaload, 1) := by decide +kernel
theorem d_Model_checkSet_246 : decode b_Model_checkSet 246 = .ok (.iaload, 1) := by decide +kernel
theorem d_Model_checkSet_247 : decode b_Model_checkSet 247 = .ok (.iconst 1, 1) := by decide +kernel
theorem d_Model_checkSet_248 : decode b_Model_checkSet 248 = .ok (.if_icmp .ne 13, 3) := by decide +kernel
theorem d_Model_checkSet_251 : decode b_Model_checkSet 251 = .ok (.aload_n 0, 1) := by decide +kernel
theorem d_Model_checkSet_252 : decode b_Model_checkSet 252 = .ok (.dup, 1) := by decide +kernel
theorem d_Model_checkSet_253 : decode b_Model_checkSet 253 = .ok (.getfield 698, 3) := by decide +kernel
theorem fl_Model_698 : Cond.fieldLink R_Model 698 "PointerHouseModel" "tags" "I" ∈ lw_good := lg_right (i := 1909) (by decide +kernel) rfl
theorem d_Model_checkSet_256 : decode b_Model_checkSet 256 = .ok (.iconst 1, 1) := by decide +kernel
theorem d_Model_checkSet_257 : decode b_Model_checkSet 257 = .ok (.isub, 1) := by decide +kernel
theorem d_Model_checkSet_258 : decode b_Model_checkSet 258 = .ok (.putfield 698, 3) := by decide +kernel
theorem d_Model_checkSet_261 : decode b_Model_checkSet 261 = .ok (.aload_n 0, 1) := by decide +kernel
theorem d_Model_checkSet_262 : decode b_Model_checkSet 262 = .ok (.iload_n 2, 1) := by decide +kernel
theorem d_Model_checkSet_263 : decode b_Model_checkSet 263 = .ok (.iload 4, 2) := by decide +kernel
theorem d_Model_checkSet_265 : decode b_Model_checkSet 265 = .ok (.aload_n 0, 1) := by decide +kernel
theorem d_Model_checkSet_266 : decode b_Model_checkSet 266 = .ok (.getfield 123, 3) := by decide +kernel
theorem d_Model_checkSet_269 : decode b_Model_checkSet 269 = .ok (.aload_n 0, 1) := by decide +kernel
theorem d_Model_checkSet_270 : decode b_Model_checkSet 270 = .ok (.getfield 129, 3) := by decide +kernel
theorem d_Model_checkSet_273 : decode b_Model_checkSet 273 = .ok (.iload_n 1, 1) := by decide +kernel
theorem d_Model_checkSet_274 : decode b_Model_checkSet 274 = .ok (.iaload, 1) := by decide +kernel
theorem d_Model_checkSet_275 : decode b_Model_checkSet 275 = .ok (.iaload, 1) := by decide +kernel
theorem d_Model_checkSet_276 : decode b_Model_checkSet 276 = .ok (.invokevirtual 688, 3) := by decide +kernel
theorem d_Model_checkSet_279 : decode b_Model_checkSet 279 = .ok (.return_, 1) := by decide +kernel
abbrev b_Model_give : ByteArray := prog_14_method_75_code
abbrev y_Model_give : MethodName := ⟨R_Model, "give", "(IIIZ)V"⟩
theorem co_Model_give : Cond.code y_Model_give b_Model_give 6 none ∈ lw_good := lg_in (tin_12 _ (List.mem_of_getElem? (i := 6) rfl)) rfl
abbrev w_Model_give : List Cond := Cond.code y_Model_give b_Model_give 6 none :: lw_good
theorem im_Model_give : Cond.instanceMethod y_Model_give ∈ lw_good := lg_right (i := 2645) (by decide +kernel) rfl
theorem se_Model_give : Cond.selects R_Model y_Model_give y_Model_give ∈ lw_good := lg_left (i := 188) (by decide +kernel) rfl
theorem d_Model_give_0 : decode b_Model_give 0 = .ok (.iconst 1, 1) := by decide +kernel
theorem d_Model_give_1 : decode b_Model_give 1 = .ok (.iload_n 1, 1) := by decide +kernel
theorem d_Model_give_2 : decode b_Model_give 2 = .ok (.ishl, 1) := by decide +kernel
theorem d_Model_give_3 : decode b_Model_give 3 = .ok (.istore 5, 2) := by decide +kernel
theorem d_Model_give_5 : decode b_Model_give 5 = .ok (.aload_n 0, 1) := by decide +kernel
theorem d_Model_give_6 : decode b_Model_give 6 = .ok (.iload 4, 2) := by decide +kernel
theorem d_Model_give_8 : decode b_Model_give 8 = .ok (.ifCond .eq 13, 3) := by decide +kernel
theorem d_Model_give_11 : decode b_Model_give 11 = .ok (.aload_n 0, 1) := by decide +kernel
theorem d_Model_give_12 : decode b_Model_give 12 = .ok (.getfield 624, 3) := by decide +kernel
theorem d_Model_give_15 : decode b_Model_give 15 = .ok (.iload 5, 2) := by decide +kernel
theorem d_Model_give_17 : decode b_Model_give 17 = .ok (.ior, 1) := by decide +kernel
theorem d_Model_give_18 : decode b_Model_give 18 = .ok (.goto 12, 3) := by decide +kernel
theorem d_Model_give_21 : decode b_Model_give 21 = .ok (.aload_n 0, 1) := by decide +kernel
theorem d_Model_give_22 : decode b_Model_give 22 = .ok (.getfield 624, 3) := by decide +kernel
theorem d_Model_give_25 : decode b_Model_give 25 = .ok (.iload 5, 2) := by decide +kernel
theorem d_Model_give_27 : decode b_Model_give 27 = .ok (.iconst (-1), 1) := by decide +kernel
theorem d_Model_give_28 : decode b_Model_give 28 = .ok (.ixor, 1) := by decide +kernel
theorem d_Model_give_29 : decode b_Model_give 29 = .ok (.iand, 1) := by decide +kernel
theorem d_Model_give_30 : decode b_Model_give 30 = .ok (.putfield 624, 3) := by decide +kernel
theorem d_Model_give_33 : decode b_Model_give 33 = .ok (.aload_n 0, 1) := by decide +kernel
theorem d_Model_give_34 : decode b_Model_give 34 = .ok (.iload 4, 2) := by decide +kernel
theorem d_Model_give_36 : decode b_Model_give 36 = .ok (.ifCond .eq 41, 3) := by decide +kernel
theorem d_Model_give_39 : decode b_Model_give 39 = .ok (.iload_n 2, 1) := by decide +kernel
theorem d_Model_give_40 : decode b_Model_give 40 = .ok (.ifCond .le 37, 3) := by decide +kernel
theorem d_Model_give_43 : decode b_Model_give 43 = .ok (.aload_n 0, 1) := by decide +kernel
theorem d_Model_give_44 : decode b_Model_give 44 = .ok (.getfield 156, 3) := by decide +kernel
theorem d_Model_give_47 : decode b_Model_give 47 = .ok (.iload_n 2, 1) := by decide +kernel
theorem d_Model_give_48 : decode b_Model_give 48 = .ok (.iaload, 1) := by decide +kernel
theorem d_Model_give_49 : decode b_Model_give 49 = .ok (.iconst 2, 1) := by decide +kernel
theorem d_Model_give_50 : decode b_Model_give 50 = .ok (.if_icmp .ne 27, 3) := by decide +kernel
theorem d_Model_give_53 : decode b_Model_give 53 = .ok (.iload_n 3, 1) := by decide +kernel
theorem d_Model_give_54 : decode b_Model_give 54 = .ok (.ifCond .le 23, 3) := by decide +kernel
theorem d_Model_give_57 : decode b_Model_give 57 = .ok (.aload_n 0, 1) := by decide +kernel
theorem d_Model_give_58 : decode b_Model_give 58 = .ok (.getfield 156, 3) := by decide +kernel
theorem d_Model_give_61 : decode b_Model_give 61 = .ok (.iload_n 3, 1) := by decide +kernel
theorem d_Model_give_62 : decode b_Model_give 62 = .ok (.iaload, 1) := by decide +kernel
theorem d_Model_give_63 : decode b_Model_give 63 = .ok (.iconst 1, 1) := by decide +kernel
theorem d_Model_give_64 : decode b_Model_give 64 = .ok (.if_icmp .ne 13, 3) := by decide +kernel
theorem d_Model_give_67 : decode b_Model_give 67 = .ok (.aload_n 0, 1) := by decide +kernel
theorem d_Model_give_68 : decode b_Model_give 68 = .ok (.getfield 627, 3) := by decide +kernel
theorem d_Model_give_71 : decode b_Model_give 71 = .ok (.iload 5, 2) := by decide +kernel
theorem d_Model_give_73 : decode b_Model_give 73 = .ok (.ior, 1) := by decide +kernel
theorem d_Model_give_74 : decode b_Model_give 74 = .ok (.goto 12, 3) := by decide +kernel
theorem d_Model_give_77 : decode b_Model_give 77 = .ok (.aload_n 0, 1) := by decide +kernel
theorem d_Model_give_78 : decode b_Model_give 78 = .ok (.getfield 627, 3) := by decide +kernel
theorem d_Model_give_81 : decode b_Model_give 81 = .ok (.iload 5, 2) := by decide +kernel
theorem d_Model_give_83 : decode b_Model_give 83 = .ok (.iconst (-1), 1) := by decide +kernel
theorem d_Model_give_84 : decode b_Model_give 84 = .ok (.ixor, 1) := by decide +kernel
theorem d_Model_give_85 : decode b_Model_give 85 = .ok (.iand, 1) := by decide +kernel
theorem d_Model_give_86 : decode b_Model_give 86 = .ok (.putfield 627, 3) := by decide +kernel
theorem d_Model_give_89 : decode b_Model_give 89 = .ok (.return_, 1) := by decide +kernel
abbrev b_Model_asked : ByteArray := prog_14_method_77_code
abbrev y_Model_asked : MethodName := ⟨R_Model, "asked", "(IZ)I"⟩
theorem co_Model_asked : Cond.code y_Model_asked b_Model_asked 5 (some .int) ∈ lw_good := lg_in (tin_12 _ (List.mem_of_getElem? (i := 18) rfl)) rfl
abbrev w_Model_asked : List Cond := Cond.code y_Model_asked b_Model_asked 5 (some .int) :: lw_good
theorem im_Model_asked : Cond.instanceMethod y_Model_asked ∈ lw_good := lg_right (i := 2657) (by decide +kernel) rfl
theorem se_Model_asked : Cond.selects R_Model y_Model_asked y_Model_asked ∈ lw_good := lg_left (i := 191) (by decide +kernel) rfl
theorem d_Model_asked_0 : decode b_Model_asked 0 = .ok (.iload_n 1, 1) := by decide +kernel
theorem d_Model_asked_1 : decode b_Model_asked 1 = .ok (.istore_n 3, 1) := by decide +kernel
theorem d_Model_asked_2 : decode b_Model_asked 2 = .ok (.iload_n 2, 1) := by decide +kernel
theorem d_Model_asked_3 : decode b_Model_asked 3 = .ok (.ifCond .eq 65, 3) := by decide +kernel
theorem d_Model_asked_6 : decode b_Model_asked 6 = .ok (.aload_n 0, 1) := by decide +kernel
theorem d_Model_asked_7 : decode b_Model_asked 7 = .ok (.getfield 120, 3) := by decide +kernel
theorem d_Model_asked_10 : decode b_Model_asked 10 = .ok (.iload_n 1, 1) := by decide +kernel
theorem d_Model_asked_11 : decode b_Model_asked 11 = .ok (.iaload, 1) := by decide +kernel
theorem d_Model_asked_12 : decode b_Model_asked 12 = .ok (.bipush 13, 2) := by decide +kernel
theorem d_Model_asked_14 : decode b_Model_asked 14 = .ok (.if_icmp .ne 45, 3) := by decide +kernel
theorem d_Model_asked_17 : decode b_Model_asked 17 = .ok (.aload_n 0, 1) := by decide +kernel
theorem d_Model_asked_18 : decode b_Model_asked 18 = .ok (.getfield 132, 3) := by decide +kernel
theorem d_Model_asked_21 : decode b_Model_asked 21 = .ok (.iload_n 1, 1) := by decide +kernel
theorem d_Model_asked_22 : decode b_Model_asked 22 = .ok (.iaload, 1) := by decide +kernel
theorem d_Model_asked_23 : decode b_Model_asked 23 = .ok (.sipush 256, 3) := by decide +kernel
theorem d_Model_asked_26 : decode b_Model_asked 26 = .ok (.if_icmp .ne 33, 3) := by decide +kernel
theorem d_Model_asked_29 : decode b_Model_asked 29 = .ok (.aload_n 0, 1) := by decide +kernel
theorem d_Model_asked_30 : decode b_Model_asked 30 = .ok (.getfield 120, 3) := by decide +kernel
theorem d_Model_asked_33 : decode b_Model_asked 33 = .ok (.aload_n 0, 1) := by decide +kernel
theorem d_Model_asked_34 : decode b_Model_asked 34 = .ok (.getfield 126, 3) := by decide +kernel
theorem d_Model_asked_37 : decode b_Model_asked 37 = .ok (.iload_n 1, 1) := by decide +kernel
theorem d_Model_asked_38 : decode b_Model_asked 38 = .ok (.iaload, 1) := by decide +kernel
theorem d_Model_asked_39 : decode b_Model_asked 39 = .ok (.iaload, 1) := by decide +kernel
theorem d_Model_asked_40 : decode b_Model_asked 40 = .ok (.iconst 4, 1) := by decide +kernel
theorem d_Model_asked_41 : decode b_Model_asked 41 = .ok (.if_icmp .ne 18, 3) := by decide +kernel
theorem d_Model_asked_44 : decode b_Model_asked 44 = .ok (.aload_n 0, 1) := by decide +kernel
theorem d_Model_asked_45 : decode b_Model_asked 45 = .ok (.getfield 120, 3) := by decide +kernel
theorem d_Model_asked_48 : decode b_Model_asked 48 = .ok (.aload_n 0, 1) := by decide +kernel
theorem d_Model_asked_49 : decode b_Model_asked 49 = .ok (.getfield 129, 3) := by decide +kernel
theorem d_Model_asked_52 : decode b_Model_asked 52 = .ok (.iload_n 1, 1) := by decide +kernel
theorem d_Model_asked_53 : decode b_Model_asked 53 = .ok (.iaload, 1) := by decide +kernel
theorem d_Model_asked_54 : decode b_Model_asked 54 = .ok (.iaload, 1) := by decide +kernel
theorem d_Model_asked_55 : decode b_Model_asked 55 = .ok (.iconst 1, 1) := by decide +kernel
theorem d_Model_asked_56 : decode b_Model_asked 56 = .ok (.if_icmp .eq 5, 3) := by decide +kernel
theorem d_Model_asked_59 : decode b_Model_asked 59 = .ok (.iconst (-1), 1) := by decide +kernel
theorem d_Model_asked_60 : decode b_Model_asked 60 = .ok (.ireturn, 1) := by decide +kernel
theorem d_Model_asked_61 : decode b_Model_asked 61 = .ok (.aload_n 0, 1) := by decide +kernel
theorem d_Model_asked_62 : decode b_Model_asked 62 = .ok (.getfield 126, 3) := by decide +kernel
theorem d_Model_asked_65 : decode b_Model_asked 65 = .ok (.iload_n 1, 1) := by decide +kernel
theorem d_Model_asked_66 : decode b_Model_asked 66 = .ok (.iaload, 1) := by decide +kernel
theorem d_Model_asked_67 : decode b_Model_asked 67 = .ok (.istore_n 3, 1) := by decide +kernel
theorem d_Model_asked_68 : decode b_Model_asked 68 = .ok (.aload_n 0, 1) := by decide +kernel
theorem d_Model_asked_69 : decode b_Model_asked 69 = .ok (.getfield 120, 3) := by decide +kernel
theorem d_Model_asked_72 : decode b_Model_asked 72 = .ok (.iload_n 3, 1) := by decide +kernel
theorem d_Model_asked_73 : decode b_Model_asked 73 = .ok (.iaload, 1) := by decide +kernel
theorem d_Model_asked_74 : decode b_Model_asked 74 = .ok (.iconst 4, 1) := by decide +kernel
theorem d_Model_asked_75 : decode b_Model_asked 75 = .ok (.if_icmp .eq 5, 3) := by decide +kernel
theorem d_Model_asked_78 : decode b_Model_asked 78 = .ok (.iconst (-1), 1) := by decide +kernel
theorem d_Model_asked_79 : decode b_Model_asked 79 = .ok (.ireturn, 1) := by decide +kernel
theorem d_Model_asked_80 : decode b_Model_asked 80 = .ok (.aload_n 0, 1) := by decide +kernel
theorem d_Model_asked_81 : decode b_Model_asked 81 = .ok (.aload_n 0, 1) := by decide +kernel
theorem d_Model_asked_82 : decode b_Model_asked 82 = .ok (.getfield 138, 3) := by decide +kernel
theorem d_Model_asked_85 : decode b_Model_asked 85 = .ok (.iload_n 3, 1) := by decide +kernel
theorem d_Model_asked_86 : decode b_Model_asked 86 = .ok (.laload, 1) := by decide +kernel
theorem d_Model_asked_87 : decode b_Model_asked 87 = .ok (.invokevirtual 691, 3) := by decide +kernel
theorem d_Model_asked_90 : decode b_Model_asked 90 = .ok (.istore 4, 2) := by decide +kernel
theorem d_Model_asked_92 : decode b_Model_asked 92 = .ok (.iload 4, 2) := by decide +kernel
theorem d_Model_asked_94 : decode b_Model_asked 94 = .ok (.ifCond .lt 39, 3) := by decide +kernel
theorem d_Model_asked_97 : decode b_Model_asked 97 = .ok (.aload_n 0, 1) := by decide +kernel
theorem d_Model_asked_98 : decode b_Model_asked 98 = .ok (.getfield 186, 3) := by decide +kernel
theorem d_Model_asked_101 : decode b_Model_asked 101 = .ok (.iload 4, 2) := by decide +kernel
theorem d_Model_asked_103 : decode b_Model_asked 103 = .ok (.iaload, 1) := by decide +kernel
theorem d_Model_asked_104 : decode b_Model_asked 104 = .ok (.ifCond .le 29, 3) := by decide +kernel
theorem d_Model_asked_107 : decode b_Model_asked 107 = .ok (.aload_n 0, 1) := by decide +kernel
theorem d_Model_asked_108 : decode b_Model_asked 108 = .ok (.getfield 156, 3) := by decide +kernel
theorem d_Model_asked_111 : decode b_Model_asked 111 = .ok (.aload_n 0, 1) := by decide +kernel
theorem d_Model_asked_112 : decode b_Model_asked 112 = .ok (.getfield 186, 3) := by decide +kernel
theorem d_Model_asked_115 : decode b_Model_asked 115 = .ok (.iload 4, 2) := by decide +kernel
theorem d_Model_asked_117 : decode b_Model_asked 117 = .ok (.iaload, 1) := by decide +kernel
theorem d_Model_asked_118 : decode b_Model_asked 118 = .ok (.iaload, 1) := by decide +kernel
theorem d_Model_asked_119 : decode b_Model_asked 119 = .ok (.iconst 2, 1) := by decide +kernel
theorem d_Model_asked_120 : decode b_Model_asked 120 = .ok (.if_icmp .ne 13, 3) := by decide +kernel
theorem d_Model_asked_123 : decode b_Model_asked 123 = .ok (.aload_n 0, 1) := by decide +kernel
theorem d_Model_asked_124 : decode b_Model_asked 124 = .ok (.getfield 183, 3) := by decide +kernel
theorem d_Model_asked_127 : decode b_Model_asked 127 = .ok (.iload 4, 2) := by decide +kernel
theorem d_Model_asked_129 : decode b_Model_asked 129 = .ok (.iaload, 1) := by decide +kernel
theorem d_Model_asked_130 : decode b_Model_asked 130 = .ok (.goto 4, 3) := by decide +kernel
theorem d_Model_asked_133 : decode b_Model_asked 133 = .ok (.iconst (-1), 1) := by decide +kernel
theorem d_Model_asked_134 : decode b_Model_asked 134 = .ok (.ireturn, 1) := by decide +kernel
abbrev b_Model_knowing : ByteArray := prog_14_method_78_code
abbrev y_Model_knowing : MethodName := ⟨R_Model, "knowing", "(I)V"⟩
theorem co_Model_knowing : Cond.code y_Model_knowing b_Model_knowing 2 none ∈ lw_good := lg_in (tin_12 _ (List.mem_of_getElem? (i := 22) rfl)) rfl
abbrev w_Model_knowing : List Cond := Cond.code y_Model_knowing b_Model_knowing 2 none :: lw_good
theorem im_Model_knowing : Cond.instanceMethod y_Model_knowing ∈ lw_good := lg_right (i := 2661) (by decide +kernel) rfl
theorem se_Model_knowing : Cond.selects R_Model y_Model_knowing y_Model_knowing ∈ lw_good := lg_left (i := 192) (by decide +kernel) rfl
theorem d_Model_knowing_0 : decode b_Model_knowing 0 = .ok (.iload_n 1, 1) := by decide +kernel
theorem d_Model_knowing_1 : decode b_Model_knowing 1 = .ok (.ifCond .lt 15, 3) := by decide +kernel
theorem d_Model_knowing_4 : decode b_Model_knowing 4 = .ok (.aload_n 0, 1) := by decide +kernel
theorem d_Model_knowing_5 : decode b_Model_knowing 5 = .ok (.dup, 1) := by decide +kernel
theorem d_Model_knowing_6 : decode b_Model_knowing 6 = .ok (.getfield 627, 3) := by decide +kernel
theorem d_Model_knowing_9 : decode b_Model_knowing 9 = .ok (.iconst 1, 1) := by decide +kernel
theorem d_Model_knowing_10 : decode b_Model_knowing 10 = .ok (.iload_n 1, 1) := by decide +kernel
theorem d_Model_knowing_11 : decode b_Model_knowing 11 = .ok (.ishl, 1) := by decide +kernel
theorem d_Model_knowing_12 : decode b_Model_knowing 12 = .ok (.ior, 1) := by decide +kernel
theorem d_Model_knowing_13 : decode b_Model_knowing 13 = .ok (.putfield 627, 3) := by decide +kernel
theorem d_Model_knowing_16 : decode b_Model_knowing 16 = .ok (.return_, 1) := by decide +kernel
abbrev b_Model_checkCondition : ByteArray := prog_14_method_79_code
abbrev y_Model_checkCondition : MethodName := ⟨R_Model, "checkCondition", "(I)V"⟩
theorem co_Model_checkCondition : Cond.code y_Model_checkCondition b_Model_checkCondition 3 none ∈ lw_good := lg_in (tin_12 _ (List.mem_of_getElem? (i := 14) rfl)) rfl
abbrev w_Model_checkCondition : List Cond := Cond.code y_Model_checkCondition b_Model_checkCondition 3 none :: lw_good
theorem im_Model_checkCondition : Cond.instanceMethod y_Model_checkCondition ∈ lw_good := lg_right (i := 2653) (by decide +kernel) rfl
theorem se_Model_checkCondition : Cond.selects R_Model y_Model_checkCondition y_Model_checkCondition ∈ lw_good := lg_left (i := 190) (by decide +kernel) rfl
theorem d_Model_checkCondition_0 : decode b_Model_checkCondition 0 = .ok (.aload_n 0, 1) := by decide +kernel
theorem d_Model_checkCondition_1 : decode b_Model_checkCondition 1 = .ok (.iload_n 1, 1) := by decide +kernel
theorem d_Model_checkCondition_2 : decode b_Model_checkCondition 2 = .ok (.invokevirtual 652, 3) := by decide +kernel
theorem d_Model_checkCondition_5 : decode b_Model_checkCondition 5 = .ok (.istore_n 2, 1) := by decide +kernel
theorem d_Model_checkCondition_6 : decode b_Model_checkCondition 6 = .ok (.aload_n 0, 1) := by decide +kernel
theorem d_Model_checkCondition_7 : decode b_Model_checkCondition 7 = .ok (.invokevirtual 385, 3) := by decide +kernel
theorem d_Model_checkCondition_10 : decode b_Model_checkCondition 10 = .ok (.ifCond .ne 26, 3) := by decide +kernel
theorem d_Model_checkCondition_13 : decode b_Model_checkCondition 13 = .ok (.iload_n 2, 1) := by decide +kernel
theorem d_Model_checkCondition_14 : decode b_Model_checkCondition 14 = .ok (.ifCond .eq 22, 3) := by decide +kernel
theorem d_Model_checkCondition_17 : decode b_Model_checkCondition 17 = .ok (.aload_n 0, 1) := by decide +kernel
theorem d_Model_checkCondition_18 : decode b_Model_checkCondition 18 = .ok (.iload_n 2, 1) := by decide +kernel
theorem d_Model_checkCondition_19 : decode b_Model_checkCondition 19 = .ok (.invokevirtual 560, 3) := by decide +kernel
theorem d_Model_checkCondition_22 : decode b_Model_checkCondition 22 = .ok (.ifCond .ne 14, 3) := by decide +kernel
theorem d_Model_checkCondition_25 : decode b_Model_checkCondition 25 = .ok (.aload_n 0, 1) := by decide +kernel
theorem d_Model_checkCondition_26 : decode b_Model_checkCondition 26 = .ok (.iconst 4, 1) := by decide +kernel
theorem d_Model_checkCondition_27 : decode b_Model_checkCondition 27 = .ok (.aload_n 0, 1) := by decide +kernel
theorem d_Model_checkCondition_28 : decode b_Model_checkCondition 28 = .ok (.getfield 123, 3) := by decide +kernel
theorem d_Model_checkCondition_31 : decode b_Model_checkCondition 31 = .ok (.iload_n 1, 1) := by decide +kernel
theorem d_Model_checkCondition_32 : decode b_Model_checkCondition 32 = .ok (.iaload, 1) := by decide +kernel
theorem d_Model_checkCondition_33 : decode b_Model_checkCondition 33 = .ok (.invokevirtual 381, 3) := by decide +kernel
theorem d_Model_checkCondition_36 : decode b_Model_checkCondition 36 = .ok (.return_, 1) := by decide +kernel
abbrev b_Model_meet : ByteArray := prog_14_method_81_code
abbrev y_Model_meet : MethodName := ⟨R_Model, "meet", "(IIIZI)V"⟩
theorem co_Model_meet : Cond.code y_Model_meet b_Model_meet 6 none ∈ lw_good := lg_in (tin_12 _ (List.mem_of_getElem? (i := 26) rfl)) rfl
abbrev w_Model_meet : List Cond := Cond.code y_Model_meet b_Model_meet 6 none :: lw_good
theorem im_Model_meet : Cond.instanceMethod y_Model_meet ∈ lw_good := lg_right (i := 2665) (by decide +kernel) rfl
theorem se_Model_meet : Cond.selects R_Model y_Model_meet y_Model_meet ∈ lw_good := lg_left (i := 193) (by decide +kernel) rfl
theorem d_Model_meet_0 : decode b_Model_meet 0 = .ok (.aload_n 0, 1) := by decide +kernel
theorem d_Model_meet_1 : decode b_Model_meet 1 = .ok (.getfield 630, 3) := by decide +kernel
theorem d_Model_meet_4 : decode b_Model_meet 4 = .ok (.ifCond .eq 47, 3) := by decide +kernel
theorem d_Model_meet_7 : decode b_Model_meet 7 = .ok (.iload 4, 2) := by decide +kernel
theorem d_Model_meet_9 : decode b_Model_meet 9 = .ok (.ifCond .eq 42, 3) := by decide +kernel
theorem d_Model_meet_12 : decode b_Model_meet 12 = .ok (.aload_n 0, 1) := by decide +kernel
theorem d_Model_meet_13 : decode b_Model_meet 13 = .ok (.getfield 575, 3) := by decide +kernel
theorem d_Model_meet_16 : decode b_Model_meet 16 = .ok (.iload_n 3, 1) := by decide +kernel
theorem d_Model_meet_17 : decode b_Model_meet 17 = .ok (.if_icmp .eq 11, 3) := by decide +kernel
theorem d_Model_meet_20 : decode b_Model_meet 20 = .ok (.aload_n 0, 1) := by decide +kernel
theorem d_Model_meet_21 : decode b_Model_meet 21 = .ok (.bipush 8, 2) := by decide +kernel
theorem d_Model_meet_23 : decode b_Model_meet 23 = .ok (.iload 5, 2) := by decide +kernel
theorem d_Model_meet_25 : decode b_Model_meet 25 = .ok (.invokevirtual 381, 3) := by decide +kernel
theorem d_Model_meet_28 : decode b_Model_meet 28 = .ok (.aload_n 0, 1) := by decide +kernel
theorem d_Model_meet_29 : decode b_Model_meet 29 = .ok (.dup, 1) := by decide +kernel
theorem d_Model_meet_30 : decode b_Model_meet 30 = .ok (.getfield 624, 3) := by decide +kernel
theorem d_Model_meet_33 : decode b_Model_meet 33 = .ok (.iload_n 1, 1) := by decide +kernel
theorem d_Model_meet_34 : decode b_Model_meet 34 = .ok (.iand, 1) := by decide +kernel
theorem d_Model_meet_35 : decode b_Model_meet 35 = .ok (.putfield 624, 3) := by decide +kernel
theorem d_Model_meet_38 : decode b_Model_meet 38 = .ok (.aload_n 0, 1) := by decide +kernel
theorem d_Model_meet_39 : decode b_Model_meet 39 = .ok (.dup, 1) := by decide +kernel
theorem d_Model_meet_40 : decode b_Model_meet 40 = .ok (.getfield 627, 3) := by decide +kernel
theorem d_Model_meet_43 : decode b_Model_meet 43 = .ok (.iload_n 2, 1) := by decide +kernel
theorem d_Model_meet_44 : decode b_Model_meet 44 = .ok (.iand, 1) := by decide +kernel
theorem d_Model_meet_45 : decode b_Model_meet 45 = .ok (.putfield 627, 3) := by decide +kernel
theorem d_Model_meet_48 : decode b_Model_meet 48 = .ok (.goto 36, 3) := by decide +kernel
theorem d_Model_meet_51 : decode b_Model_meet 51 = .ok (.iload 4, 2) := by decide +kernel
theorem d_Model_meet_53 : decode b_Model_meet 53 = .ok (.ifCond .ne 10, 3) := by decide +kernel
theorem d_Model_meet_56 : decode b_Model_meet 56 = .ok (.aload_n 0, 1) := by decide +kernel
theorem d_Model_meet_57 : decode b_Model_meet 57 = .ok (.getfield 630, 3) := by decide +kernel
theorem d_Model_meet_60 : decode b_Model_meet 60 = .ok (.ifCond .ne 24, 3) := by decide +kernel
theorem d_Model_meet_63 : decode b_Model_meet 63 = .ok (.aload_n 0, 1) := by decide +kernel
theorem d_Model_meet_64 : decode b_Model_meet 64 = .ok (.iload_n 1, 1) := by decide +kernel
theorem d_Model_meet_65 : decode b_Model_meet 65 = .ok (.putfield 624, 3) := by decide +kernel
theorem d_Model_meet_68 : decode b_Model_meet 68 = .ok (.aload_n 0, 1) := by decide +kernel
theorem d_Model_meet_69 : decode b_Model_meet 69 = .ok (.iload_n 2, 1) := by decide +kernel
theorem d_Model_meet_70 : decode b_Model_meet 70 = .ok (.putfield 627, 3) := by decide +kernel
theorem d_Model_meet_73 : decode b_Model_meet 73 = .ok (.aload_n 0, 1) := by decide +kernel
theorem d_Model_meet_74 : decode b_Model_meet 74 = .ok (.iload_n 3, 1) := by decide +kernel
theorem d_Model_meet_75 : decode b_Model_meet 75 = .ok (.putfield 575, 3) := by decide +kernel
theorem d_Model_meet_78 : decode b_Model_meet 78 = .ok (.aload_n 0, 1) := by decide +kernel
theorem d_Model_meet_79 : decode b_Model_meet 79 = .ok (.iload 4, 2) := by decide +kernel
theorem d_Model_meet_81 : decode b_Model_meet 81 = .ok (.putfield 630, 3) := by decide +kernel
theorem d_Model_meet_84 : decode b_Model_meet 84 = .ok (.return_, 1) := by decide +kernel
abbrev b_Model_given : ByteArray := prog_14_method_82_code
abbrev y_Model_given : MethodName := ⟨R_Model, "given", "(I)I"⟩
theorem co_Model_given : Cond.code y_Model_given b_Model_given 5 (some .int) ∈ lw_good := lg_in (tin_12 _ (List.mem_of_getElem? (i := 34) rfl)) rfl
abbrev w_Model_given : List Cond := Cond.code y_Model_given b_Model_given 5 (some .int) :: lw_good
theorem im_Model_given : Cond.instanceMethod y_Model_given ∈ lw_good := lg_right (i := 2673) (by decide +kernel) rfl
theorem se_Model_given : Cond.selects R_Model y_Model_given y_Model_given ∈ lw_good := lg_left (i := 195) (by decide +kernel) rfl
theorem d_Model_given_0 : decode b_Model_given 0 = .ok (.iconst 0, 1) := by decide +kernel
theorem d_Model_given_1 : decode b_Model_given 1 = .ok (.istore_n 2, 1) := by decide +kernel
theorem d_Model_given_2 : decode b_Model_given 2 = .ok (.aload_n 0, 1) := by decide +kernel
theorem d_Model_given_3 : decode b_Model_given 3 = .ok (.getfield 126, 3) := by decide +kernel
theorem d_Model_given_6 : decode b_Model_given 6 = .ok (.iload_n 1, 1) := by decide +kernel
theorem d_Model_given_7 : decode b_Model_given 7 = .ok (.iaload, 1) := by decide +kernel
theorem d_Model_given_8 : decode b_Model_given 8 = .ok (.istore_n 3, 1) := by decide +kernel
theorem d_Model_given_9 : decode b_Model_given 9 = .ok (.iload_n 3, 1) := by decide +kernel
theorem d_Model_given_10 : decode b_Model_given 10 = .ok (.ifCond .lt 200, 3) := by decide +kernel
theorem d_Model_given_13 : decode b_Model_given 13 = .ok (.aload_n 0, 1) := by decide +kernel
theorem d_Model_given_14 : decode b_Model_given 14 = .ok (.getfield 120, 3) := by decide +kernel
theorem d_Model_given_17 : decode b_Model_given 17 = .ok (.iload_n 3, 1) := by decide +kernel
theorem d_Model_given_18 : decode b_Model_given 18 = .ok (.iaload, 1) := by decide +kernel
theorem d_Model_given_19 : decode b_Model_given 19 = .ok (.bipush 29, 2) := by decide +kernel
theorem d_Model_given_21 : decode b_Model_given 21 = .ok (.if_icmp .ne 52, 3) := by decide +kernel
theorem d_Model_given_24 : decode b_Model_given 24 = .ok (.aload_n 0, 1) := by decide +kernel
theorem d_Model_given_25 : decode b_Model_given 25 = .ok (.getfield 120, 3) := by decide +kernel
theorem d_Model_given_28 : decode b_Model_given 28 = .ok (.aload_n 0, 1) := by decide +kernel
theorem d_Model_given_29 : decode b_Model_given 29 = .ok (.getfield 126, 3) := by decide +kernel
theorem d_Model_given_32 : decode b_Model_given 32 = .ok (.iload_n 3, 1) := by decide +kernel
theorem d_Model_given_33 : decode b_Model_given 33 = .ok (.iaload, 1) := by decide +kernel
theorem d_Model_given_34 : decode b_Model_given 34 = .ok (.iaload, 1) := by decide +kernel
theorem d_Model_given_35 : decode b_Model_given 35 = .ok (.iconst 4, 1) := by decide +kernel
theorem d_Model_given_36 : decode b_Model_given 36 = .ok (.if_icmp .ne 37, 3) := by decide +kernel
theorem d_Model_given_39 : decode b_Model_given 39 = .ok (.aload_n 0, 1) := by decide +kernel
theorem d_Model_given_40 : decode b_Model_given 40 = .ok (.aload_n 0, 1) := by decide +kernel
theorem d_Model_given_41 : decode b_Model_given 41 = .ok (.getfield 138, 3) := by decide +kernel
theorem d_Model_given_44 : decode b_Model_given 44 = .ok (.aload_n 0, 1) := by decide +kernel
theorem d_Model_given_45 : decode b_Model_given 45 = .ok (.getfield 126, 3) := by decide +kernel
theorem d_Model_given_48 : decode b_Model_given 48 = .ok (.iload_n 3, 1) := by decide +kernel
theorem d_Model_given_49 : decode b_Model_given 49 = .ok (.iaload, 1) := by decide +kernel
theorem d_Model_given_50 : decode b_Model_given 50 = .ok (.laload, 1) := by decide +kernel
theorem d_Model_given_51 : decode b_Model_given 51 = .ok (.invokevirtual 691, 3) := by decide +kernel
theorem d_Model_given_54 : decode b_Model_given 54 = .ok (.istore 4, 2) := by decide +kernel
theorem d_Model_given_56 : decode b_Model_given 56 = .ok (.iload 4, 2) := by decide +kernel
theorem d_Model_given_58 : decode b_Model_given 58 = .ok (.ifCond .lt 15, 3) := by decide +kernel
theorem d_Model_given_61 : decode b_Model_given 61 = .ok (.iload_n 2, 1) := by decide +kernel
theorem d_Model_given_62 : decode b_Model_given 62 = .ok (.iconst 1, 1) := by decide +kernel
theorem d_Model_given_63 : decode b_Model_given 63 = .ok (.aload_n 0, 1) := by decide +kernel
theorem d_Model_given_64 : decode b_Model_given 64 = .ok (.getfield 183, 3) := by decide +kernel
theorem d_Model_given_67 : decode b_Model_given 67 = .ok (.iload 4, 2) := by decide +kernel
theorem d_Model_given_69 : decode b_Model_given 69 = .ok (.iaload, 1) := by decide +kernel
theorem d_Model_given_70 : decode b_Model_given 70 = .ok (.ishl, 1) := by decide +kernel
theorem d_Model_given_71 : decode b_Model_given 71 = .ok (.ior, 1) := by decide +kernel
theorem d_Model_given_72 : decode b_Model_given 72 = .ok (.istore_n 2, 1) := by decide +kernel
theorem d_Model_given_73 : decode b_Model_given 73 = .ok (.aload_n 0, 1) := by decide +kernel
theorem d_Model_given_74 : decode b_Model_given 74 = .ok (.getfield 120, 3) := by decide +kernel
theorem d_Model_given_77 : decode b_Model_given 77 = .ok (.iload_n 3, 1) := by decide +kernel
theorem d_Model_given_78 : decode b_Model_given 78 = .ok (.iaload, 1) := by decide +kernel
theorem d_Model_given_79 : decode b_Model_given 79 = .ok (.bipush 21, 2) := by decide +kernel
theorem d_Model_given_81 : decode b_Model_given 81 = .ok (.if_icmp .eq 14, 3) := by decide +kernel
theorem d_Model_given_84 : decode b_Model_given 84 = .ok (.aload_n 0, 1) := by decide +kernel
theorem d_Model_given_85 : decode b_Model_given 85 = .ok (.getfield 120, 3) := by decide +kernel
theorem d_Model_given_88 : decode b_Model_given 88 = .ok (.iload_n 3, 1) := by decide +kernel
theorem d_Model_given_89 : decode b_Model_given 89 = .ok (.iaload, 1) := by decide +kernel
theorem d_Model_given_90 : decode b_Model_given 90 = .ok (.bipush 22, 2) := by decide +kernel
theorem d_Model_given_92 : decode b_Model_given 92 = .ok (.if_icmp .ne 16, 3) := by decide +kernel
theorem d_Model_given_95 : decode b_Model_given 95 = .ok (.iload_n 2, 1) := by decide +kernel
theorem d_Model_given_96 : decode b_Model_given 96 = .ok (.aload_n 0, 1) := by decide +kernel
theorem d_Model_given_97 : decode b_Model_given 97 = .ok (.aload_n 0, 1) := by decide +kernel
theorem d_Model_given_98 : decode b_Model_given 98 = .ok (.getfield 129, 3) := by decide +kernel
theorem d_Model_given_101 : decode b_Model_given 101 = .ok (.iload_n 3, 1) := by decide +kernel
theorem d_Model_given_102 : decode b_Model_given 102 = .ok (.iaload, 1) := by decide +kernel
theorem d_Model_given_103 : decode b_Model_given 103 = .ok (.invokevirtual 715, 3) := by decide +kernel
theorem d_Model_given_106 : decode b_Model_given 106 = .ok (.ior, 1) := by decide +kernel
theorem d_Model_given_107 : decode b_Model_given 107 = .ok (.istore_n 2, 1) := by decide +kernel
theorem d_Model_given_108 : decode b_Model_given 108 = .ok (.aload_n 0, 1) := by decide +kernel
theorem d_Model_given_109 : decode b_Model_given 109 = .ok (.getfield 120, 3) := by decide +kernel
theorem d_Model_given_112 : decode b_Model_given 112 = .ok (.iload_n 3, 1) := by decide +kernel
theorem d_Model_given_113 : decode b_Model_given 113 = .ok (.iaload, 1) := by decide +kernel
theorem d_Model_given_114 : decode b_Model_given 114 = .ok (.bipush 21, 2) := by decide +kernel
theorem d_Model_given_116 : decode b_Model_given 116 = .ok (.if_icmp .ne 25, 3) := by decide +kernel
theorem d_Model_given_119 : decode b_Model_given 119 = .ok (.aload_n 0, 1) := by decide +kernel
theorem d_Model_given_120 : decode b_Model_given 120 = .ok (.getfield 132, 3) := by decide +kernel
theorem d_Model_given_123 : decode b_Model_given 123 = .ok (.iload_n 3, 1) := by decide +kernel
theorem d_Model_given_124 : decode b_Model_given 124 = .ok (.iaload, 1) := by decide +kernel
theorem d_Model_given_125 : decode b_Model_given 125 = .ok (.ifCond .lt 16, 3) := by decide +kernel
theorem d_Model_given_128 : decode b_Model_given 128 = .ok (.iload_n 2, 1) := by decide +kernel
theorem d_Model_given_129 : decode b_Model_given 129 = .ok (.aload_n 0, 1) := by decide +kernel
theorem d_Model_given_130 : decode b_Model_given 130 = .ok (.aload_n 0, 1) := by decide +kernel
theorem d_Model_given_131 : decode b_Model_given 131 = .ok (.getfield 132, 3) := by decide +kernel
theorem d_Model_given_134 : decode b_Model_given 134 = .ok (.iload_n 3, 1) := by decide +kernel
theorem d_Model_given_135 : decode b_Model_given 135 = .ok (.iaload, 1) := by decide +kernel
theorem d_Model_given_136 : decode b_Model_given 136 = .ok (.invokevirtual 715, 3) := by decide +kernel
theorem d_Model_given_139 : decode b_Model_given 139 = .ok (.ior, 1) := by decide +kernel
theorem d_Model_given_140 : decode b_Model_given 140 = .ok (.istore_n 2, 1) := by decide +kernel
theorem d_Model_given_141 : decode b_Model_given 141 = .ok (.aload_n 0, 1) := by decide +kernel
theorem d_Model_given_142 : decode b_Model_given 142 = .ok (.getfield 120, 3) := by decide +kernel
theorem d_Model_given_145 : decode b_Model_given 145 = .ok (.iload_n 3, 1) := by decide +kernel
theorem d_Model_given_146 : decode b_Model_given 146 = .ok (.iaload, 1) := by decide +kernel
theorem d_Model_given_147 : decode b_Model_given 147 = .ok (.bipush 26, 2) := by decide +kernel
theorem d_Model_given_149 : decode b_Model_given 149 = .ok (.if_icmp .ne 16, 3) := by decide +kernel
theorem d_Model_given_152 : decode b_Model_given 152 = .ok (.iload_n 2, 1) := by decide +kernel
theorem d_Model_given_153 : decode b_Model_given 153 = .ok (.aload_n 0, 1) := by decide +kernel
theorem d_Model_given_154 : decode b_Model_given 154 = .ok (.aload_n 0, 1) := by decide +kernel
theorem d_Model_given_155 : decode b_Model_given 155 = .ok (.getfield 126, 3) := by decide +kernel
theorem d_Model_given_158 : decode b_Model_given 158 = .ok (.iload_n 3, 1) := by decide +kernel
theorem d_Model_given_159 : decode b_Model_given 159 = .ok (.iaload, 1) := by decide +kernel
theorem d_Model_given_160 : decode b_Model_given 160 = .ok (.invokevirtual 715, 3) := by decide +kernel
theorem d_Model_given_163 : decode b_Model_given 163 = .ok (.ior, 1) := by decide +kernel
theorem d_Model_given_164 : decode b_Model_given 164 = .ok (.istore_n 2, 1) := by decide +kernel
theorem d_Model_given_165 : decode b_Model_given 165 = .ok (.aload_n 0, 1) := by decide +kernel
theorem d_Model_given_166 : decode b_Model_given 166 = .ok (.getfield 120, 3) := by decide +kernel
theorem d_Model_given_169 : decode b_Model_given 169 = .ok (.iload_n 3, 1) := by decide +kernel
theorem d_Model_given_170 : decode b_Model_given 170 = .ok (.iaload, 1) := by decide +kernel
theorem d_Model_given_171 : decode b_Model_given 171 = .ok (.bipush 28, 2) := by decide +kernel
theorem d_Model_given_173 : decode b_Model_given 173 = .ok (.if_icmp .ne 27, 3) := by decide +kernel
theorem d_Model_given_176 : decode b_Model_given 176 = .ok (.iload_n 2, 1) := by decide +kernel
theorem d_Model_given_177 : decode b_Model_given 177 = .ok (.aload_n 0, 1) := by decide +kernel
theorem d_Model_given_178 : decode b_Model_given 178 = .ok (.aload_n 0, 1) := by decide +kernel
theorem d_Model_given_179 : decode b_Model_given 179 = .ok (.getfield 126, 3) := by decide +kernel
theorem d_Model_given_182 : decode b_Model_given 182 = .ok (.iload_n 3, 1) := by decide +kernel
theorem d_Model_given_183 : decode b_Model_given 183 = .ok (.iaload, 1) := by decide +kernel
theorem d_Model_given_184 : decode b_Model_given 184 = .ok (.invokevirtual 715, 3) := by decide +kernel
theorem d_Model_given_187 : decode b_Model_given 187 = .ok (.aload_n 0, 1) := by decide +kernel
theorem d_Model_given_188 : decode b_Model_given 188 = .ok (.aload_n 0, 1) := by decide +kernel
theorem d_Model_given_189 : decode b_Model_given 189 = .ok (.getfield 129, 3) := by decide +kernel
theorem d_Model_given_192 : decode b_Model_given 192 = .ok (.iload_n 3, 1) := by decide +kernel
theorem d_Model_given_193 : decode b_Model_given 193 = .ok (.iaload, 1) := by decide +kernel
theorem d_Model_given_194 : decode b_Model_given 194 = .ok (.invokevirtual 715, 3) := by decide +kernel
theorem d_Model_given_197 : decode b_Model_given 197 = .ok (.ior, 1) := by decide +kernel
theorem d_Model_given_198 : decode b_Model_given 198 = .ok (.ior, 1) := by decide +kernel
theorem d_Model_given_199 : decode b_Model_given 199 = .ok (.istore_n 2, 1) := by decide +kernel
theorem d_Model_given_200 : decode b_Model_given 200 = .ok (.aload_n 0, 1) := by decide +kernel
theorem d_Model_given_201 : decode b_Model_given 201 = .ok (.getfield 135, 3) := by decide +kernel
theorem d_Model_given_204 : decode b_Model_given 204 = .ok (.iload_n 3, 1) := by decide +kernel
theorem d_Model_given_205 : decode b_Model_given 205 = .ok (.iaload, 1) := by decide +kernel
theorem d_Model_given_206 : decode b_Model_given 206 = .ok (.istore_n 3, 1) := by decide +kernel
theorem d_Model_given_207 : decode b_Model_given 207 = .ok (.goto (-198), 3) := by decide +kernel
theorem d_Model_given_210 : decode b_Model_given 210 = .ok (.iload_n 2, 1) := by decide +kernel
theorem d_Model_given_211 : decode b_Model_given 211 = .ok (.ireturn, 1) := by decide +kernel
section GV
variable {p : Program} {l : Launch} {e : Env} {R : Room} {s : State} {m : MethodId} {args : Array Value} {below : List Frame} {meth : Method} {c : Code} {H : Heap} {locs : List Loc} {cells slots : Nat} {Q : State → Prop}
variable {cc : ByteArray} {pc : Nat} {ls : Array Slot} {rest st0 : List Value} {dC : Nat → ClassId} {dI : Nat → Nat → Nat} {A : Nat → Prop} {ad ea ev : Nat → Nat} {km : Nat → ClassId} {T T' : gSt} {H0 : Heap}
theorem wr_Model_575 (hx : p.tables.exec = Jvm.exec) (hb : c.code = cc) (hT : ∀ w ∈ lw_good, w.before args s = true) (hown : s.vm.findClass R_Model = some m.cls) (hK : va_K (dC, dI) cls_all (gT LM km) s) (hP : va_P (dC, dI) cls_all (gW LM ad km T) H) (hD : va_D A (gW LM ad km T)) (hS : va_S A H0 H locs) {v : Int32} (hdg : decode cc pc = .ok (.putfield 575, 3)) (kk : ∀ (T1 : gSt), T1 = sI T 75 0 v → ∀ (H1 : Heap) (locs1 : List Loc), va_P (dC, dI) cls_all (gW LM ad km T1) H1 → va_D A (gW LM ad km T1) → va_S A H0 H1 locs1 → W p l e R s m args below meth c H1 locs1 cells slots Q (F0 m (pc + 3) ls rest)) : W p l e R s m args below meth c H locs cells slots Q (F0 m pc ls (.int v :: .ref (ad 0) :: rest)) := gw_puti okM hx hb hT i_Model t_Model t_Model_ok n_Model hown hK hP hD hS 0 75 75 (Nat.le_of_ble_eq_true rfl) rfl rfl (Nat.le_of_ble_eq_true rfl) rfl rfl (hT _ fl_Model_575) (fun _ h9 => h9) rfl (ty := .int) (by decide +kernel) rfl rfl hdg kk
theorem wr_Model_593 (hx : p.tables.exec = Jvm.exec) (hb : c.code = cc) (hT : ∀ w ∈ lw_good, w.before args s = true) (hown : s.vm.findClass R_Model = some m.cls) (hK : va_K (dC, dI) cls_all (gT LM km) s) (hP : va_P (dC, dI) cls_all (gW LM ad km T) H) (hD : va_D A (gW LM ad km T)) (hS : va_S A H0 H locs) {v : Int32} (hdg : decode cc pc = .ok (.putfield 593, 3)) (kk : ∀ (T1 : gSt), T1 = sI T 76 0 v → ∀ (H1 : Heap) (locs1 : List Loc), va_P (dC, dI) cls_all (gW LM ad km T1) H1 → va_D A (gW LM ad km T1) → va_S A H0 H1 locs1 → W p l e R s m args below meth c H1 locs1 cells slots Q (F0 m (pc + 3) ls rest)) : W p l e R s m args below meth c H locs cells slots Q (F0 m pc ls (.int v :: .ref (ad 0) :: rest)) := gw_puti okM hx hb hT i_Model t_Model t_Model_ok n_Model hown hK hP hD hS 0 76 76 (Nat.le_of_ble_eq_true rfl) rfl rfl (Nat.le_of_ble_eq_true rfl) rfl rfl (hT _ fl_Model_593) (fun _ h9 => h9) rfl (ty := .int) (by decide +kernel) rfl rfl hdg kk
theorem wr_Model_563 (hx : p.tables.exec = Jvm.exec) (hb : c.code = cc) (hT : ∀ w ∈ lw_good, w.before args s = true) (hown : s.vm.findClass R_Model = some m.cls) (hK : va_K (dC, dI) cls_all (gT LM km) s) (hP : va_P (dC, dI) cls_all (gW LM ad km T) H) (hD : va_D A (gW LM ad km T)) (hS : va_S A H0 H locs) {v : Int32} (hdg : decode cc pc = .ok (.putfield 563, 3)) (kk : ∀ (T1 : gSt), T1 = sI T 77 0 v → ∀ (H1 : Heap) (locs1 : List Loc), va_P (dC, dI) cls_all (gW LM ad km T1) H1 → va_D A (gW LM ad km T1) → va_S A H0 H1 locs1 → W p l e R s m args below meth c H1 locs1 cells slots Q (F0 m (pc + 3) ls rest)) : W p l e R s m args below meth c H locs cells slots Q (F0 m pc ls (.int v :: .ref (ad 0) :: rest)) := gw_puti okM hx hb hT i_Model t_Model t_Model_ok n_Model hown hK hP hD hS 0 77 77 (Nat.le_of_ble_eq_true rfl) rfl rfl (Nat.le_of_ble_eq_true rfl) rfl rfl (hT _ fl_Model_563) (fun _ h9 => h9) rfl (ty := .int) (by decide +kernel) rfl rfl hdg kk
theorem wr_Model_624 (hx : p.tables.exec = Jvm.exec) (hb : c.code = cc) (hT : ∀ w ∈ lw_good, w.before args s = true) (hown : s.vm.findClass R_Model = some m.cls) (hK : va_K (dC, dI) cls_all (gT LM km) s) (hP : va_P (dC, dI) cls_all (gW LM ad km T) H) (hD : va_D A (gW LM ad km T)) (hS : va_S A H0 H locs) {v : Int32} (hdg : decode cc pc = .ok (.putfield 624, 3)) (kk : ∀ (T1 : gSt), T1 = sI T 81 0 v → ∀ (H1 : Heap) (locs1 : List Loc), va_P (dC, dI) cls_all (gW LM ad km T1) H1 → va_D A (gW LM ad km T1) → va_S A H0 H1 locs1 → W p l e R s m args below meth c H1 locs1 cells slots Q (F0 m (pc + 3) ls rest)) : W p l e R s m args below meth c H locs cells slots Q (F0 m pc ls (.int v :: .ref (ad 0) :: rest)) := gw_puti okM hx hb hT i_Model t_Model t_Model_ok n_Model hown hK hP hD hS 0 81 81 (Nat.le_of_ble_eq_true rfl) rfl rfl (Nat.le_of_ble_eq_true rfl) rfl rfl (hT _ fl_Model_624) (fun _ h9 => h9) rfl (ty := .int) (by decide +kernel) rfl rfl hdg kk
theorem wr_Model_627 (hx : p.tables.exec = Jvm.exec) (hb : c.code = cc) (hT : ∀ w ∈ lw_good, w.before args s = true) (hown : s.vm.findClass R_Model = some m.cls) (hK : va_K (dC, dI) cls_all (gT LM km) s) (hP : va_P (dC, dI) cls_all (gW LM ad km T) H) (hD : va_D A (gW LM ad km T)) (hS : va_S A H0 H locs) {v : Int32} (hdg : decode cc pc = .ok (.putfield 627, 3)) (kk : ∀ (T1 : gSt), T1 = sI T 82 0 v → ∀ (H1 : Heap) (locs1 : List Loc), va_P (dC, dI) cls_all (gW LM ad km T1) H1 → va_D A (gW LM ad km T1) → va_S A H0 H1 locs1 → W p l e R s m args below meth c H1 locs1 cells slots Q (F0 m (pc + 3) ls rest)) : W p l e R s m args below meth c H locs cells slots Q (F0 m pc ls (.int v :: .ref (ad 0) :: rest)) := gw_puti okM hx hb hT i_Model t_Model t_Model_ok n_Model hown hK hP hD hS 0 82 82 (Nat.le_of_ble_eq_true rfl) rfl rfl (Nat.le_of_ble_eq_true rfl) rfl rfl (hT _ fl_Model_627) (fun _ h9 => h9) rfl (ty := .int) (by decide +kernel) rfl rfl hdg kk
theorem wr_Model_630 (hx : p.tables.exec = Jvm.exec) (hb : c.code = cc) (hT : ∀ w ∈ lw_good, w.before args s = true) (hown : s.vm.findClass R_Model = some m.cls) (hK : va_K (dC, dI) cls_all (gT LM km) s) (hP : va_P (dC, dI) cls_all (gW LM ad km T) H) (hD : va_D A (gW LM ad km T)) (hS : va_S A H0 H locs) {v : Int32} (hz : v = 0 ∨ v = 1) (hdg : decode cc pc = .ok (.putfield 630, 3)) (kk : ∀ (T1 : gSt), T1 = sI T 83 0 v → ∀ (H1 : Heap) (locs1 : List Loc), va_P (dC, dI) cls_all (gW LM ad km T1) H1 → va_D A (gW LM ad km T1) → va_S A H0 H1 locs1 → W p l e R s m args below meth c H1 locs1 cells slots Q (F0 m (pc + 3) ls rest)) : W p l e R s m args below meth c H locs cells slots Q (F0 m pc ls (.int v :: .ref (ad 0) :: rest)) := gw_puti okM hx hb hT i_Model t_Model t_Model_ok n_Model hown hK hP hD hS 0 83 83 (Nat.le_of_ble_eq_true rfl) rfl rfl (Nat.le_of_ble_eq_true rfl) rfl rfl (hT _ fl_Model_630) (fun _ h9 => h9) rfl (ty := .boolean) (by decide +kernel) (by rcases hz with h | h <;> rw [h] <;> rfl) (by rcases hz with h | h <;> rw [h] <;> rfl) hdg kk
theorem wr_Model_634 (hx : p.tables.exec = Jvm.exec) (hb : c.code = cc) (hT : ∀ w ∈ lw_good, w.before args s = true) (hown : s.vm.findClass R_Model = some m.cls) (hK : va_K (dC, dI) cls_all (gT LM km) s) (hP : va_P (dC, dI) cls_all (gW LM ad km T) H) (hD : va_D A (gW LM ad km T)) (hS : va_S A H0 H locs) {v : Int32} (hdg : decode cc pc = .ok (.putfield 634, 3)) (kk : ∀ (T1 : gSt), T1 = sI T 84 0 v → ∀ (H1 : Heap) (locs1 : List Loc), va_P (dC, dI) cls_all (gW LM ad km T1) H1 → va_D A (gW LM ad km T1) → va_S A H0 H1 locs1 → W p l e R s m args below meth c H1 locs1 cells slots Q (F0 m (pc + 3) ls rest)) : W p l e R s m args below meth c H locs cells slots Q (F0 m pc ls (.int v :: .ref (ad 0) :: rest)) := gw_puti okM hx hb hT i_Model t_Model t_Model_ok n_Model hown hK hP hD hS 0 84 84 (Nat.le_of_ble_eq_true rfl) rfl rfl (Nat.le_of_ble_eq_true rfl) rfl rfl (hT _ fl_Model_634) (fun _ h9 => h9) rfl (ty := .int) (by decide +kernel) rfl rfl hdg kk
theorem wr_Model_637 (hx : p.tables.exec = Jvm.exec) (hb : c.code = cc) (hT : ∀ w ∈ lw_good, w.before args s = true) (hown : s.vm.findClass R_Model = some m.cls) (hK : va_K (dC, dI) cls_all (gT LM km) s) (hP : va_P (dC, dI) cls_all (gW LM ad km T) H) (hD : va_D A (gW LM ad km T)) (hS : va_S A H0 H locs) {v : Int32} (hdg : decode cc pc = .ok (.putfield 637, 3)) (kk : ∀ (T1 : gSt), T1 = sI T 86 0 v → ∀ (H1 : Heap) (locs1 : List Loc), va_P (dC, dI) cls_all (gW LM ad km T1) H1 → va_D A (gW LM ad km T1) → va_S A H0 H1 locs1 → W p l e R s m args below meth c H1 locs1 cells slots Q (F0 m (pc + 3) ls rest)) : W p l e R s m args below meth c H locs cells slots Q (F0 m pc ls (.int v :: .ref (ad 0) :: rest)) := gw_puti okM hx hb hT i_Model t_Model t_Model_ok n_Model hown hK hP hD hS 0 86 86 (Nat.le_of_ble_eq_true rfl) rfl rfl (Nat.le_of_ble_eq_true rfl) rfl rfl (hT _ fl_Model_637) (fun _ h9 => h9) rfl (ty := .int) (by decide +kernel) rfl rfl hdg kk
theorem wr_Model_640 (hx : p.tables.exec = Jvm.exec) (hb : c.code = cc) (hT : ∀ w ∈ lw_good, w.before args s = true) (hown : s.vm.findClass R_Model = some m.cls) (hK : va_K (dC, dI) cls_all (gT LM km) s) (hP : va_P (dC, dI) cls_all (gW LM ad km T) H) (hD : va_D A (gW LM ad km T)) (hS : va_S A H0 H locs) {v : Int32} (hdg : decode cc pc = .ok (.putfield 640, 3)) (kk : ∀ (T1 : gSt), T1 = sI T 87 0 v → ∀ (H1 : Heap) (locs1 : List Loc), va_P (dC, dI) cls_all (gW LM ad km T1) H1 → va_D A (gW LM ad km T1) → va_S A H0 H1 locs1 → W p l e R s m args below meth c H1 locs1 cells slots Q (F0 m (pc + 3) ls rest)) : W p l e R s m args below meth c H locs cells slots Q (F0 m pc ls (.int v :: .ref (ad 0) :: rest)) := gw_puti okM hx hb hT i_Model t_Model t_Model_ok n_Model hown hK hP hD hS 0 87 87 (Nat.le_of_ble_eq_true rfl) rfl rfl (Nat.le_of_ble_eq_true rfl) rfl rfl (hT _ fl_Model_640) (fun _ h9 => h9) rfl (ty := .int) (by decide +kernel) rfl rfl hdg kk
theorem rd_Model_630 (hx : p.tables.exec = Jvm.exec) (hb : c.code = cc) (hT : ∀ w ∈ lw_good, w.before args s = true) (hown : s.vm.findClass R_Model = some m.cls) (hK : va_K (dC, dI) cls_all (gT LM km) s) (hP : va_P (dC, dI) cls_all (gW LM ad km T) H) (hdg : decode cc pc = .ok (.getfield 630, 3)) (kk : W p l e R s m args below meth c H locs cells slots Q (F0 m (pc + 3) ls (.int (T.1 83 0) :: rest))) : W p l e R s m args below meth c H locs cells slots Q (F0 m pc ls (.ref (ad 0) :: rest)) := gw_get hx hb hT i_Model hown hK hP 0 83 83 (Nat.le_of_ble_eq_true rfl) rfl rfl (Nat.le_of_ble_eq_true rfl) rfl (gv_i rfl) (hT _ fl_Model_630) (fun _ h9 => h9) hdg kk
theorem rd_Model_624 (hx : p.tables.exec = Jvm.exec) (hb : c.code = cc) (hT : ∀ w ∈ lw_good, w.before args s = true) (hown : s.vm.findClass R_Model = some m.cls) (hK : va_K (dC, dI) cls_all (gT LM km) s) (hP : va_P (dC, dI) cls_all (gW LM ad km T) H) (hdg : decode cc pc = .ok (.getfield 624, 3)) (kk : W p l e R s m args below meth c H locs cells slots Q (F0 m (pc + 3) ls (.int (T.1 81 0) :: rest))) : W p l e R s m args below meth c H locs cells slots Q (F0 m pc ls (.ref (ad 0) :: rest)) := gw_get hx hb hT i_Model hown hK hP 0 81 81 (Nat.le_of_ble_eq_true rfl) rfl rfl (Nat.le_of_ble_eq_true rfl) rfl (gv_i rfl) (hT _ fl_Model_624) (fun _ h9 => h9) hdg kk
theorem rd_Model_183 (hx : p.tables.exec = Jvm.exec) (hb : c.code = cc) (hT : ∀ w ∈ lw_good, w.before args s = true) (hown : s.vm.findClass R_Model = some m.cls) (hK : va_K (dC, dI) cls_all (gT LM km) s) (hP : va_P (dC, dI) cls_all (gW LM ad km T) H) (hdg : decode cc pc = .ok (.getfield 183, 3)) (kk : W p l e R s m args below meth c H locs cells slots Q (F0 m (pc + 3) ls (.ref (ad 57) :: rest))) : W p l e R s m args below meth c H locs cells slots Q (F0 m pc ls (.ref (ad 0) :: rest)) := gw_get hx hb hT i_Model hown hK hP 0 79 79 (Nat.le_of_ble_eq_true rfl) rfl rfl (Nat.le_of_ble_eq_true rfl) rfl (gv_a rfl) (hT _ fl_Model_183) (fun _ h9 => h9) hdg kk
theorem laM_56 (hx : p.tables.exec = Jvm.exec) (hb : c.code = cc) (hK : va_K (dC, dI) cls_all (gT LM km) s) (hP : va_P (dC, dI) cls_all (gW LM ad km T) H) {x : Int32} (hin : inb x 20) (hdg : decode cc pc = .ok (.iaload, 1)) (kk : W p l e R s m args below meth c H locs cells slots Q (F0 m (pc + 1) ls (.int (T.1 79 x.toNatClampNeg) :: rest))) : W p l e R s m args below meth c H locs cells slots Q (F0 m pc ls (.int x :: .ref (ad 57) :: rest)) := gw_iald hx hb hK hP 56 79 20 57 (Nat.le_of_ble_eq_true rfl) rfl rfl rfl rfl rfl hin hdg kk
theorem saM_56 (hx : p.tables.exec = Jvm.exec) (hb : c.code = cc) (hK : va_K (dC, dI) cls_all (gT LM km) s) (hP : va_P (dC, dI) cls_all (gW LM ad km T) H) (hD : va_D A (gW LM ad km T)) (hS : va_S A H0 H locs) {x : Int32} {v : Int32} (hin : inb x 20) (hdg : decode cc pc = .ok (.iastore, 1)) (kk : ∀ (T1 : gSt), T1 = sI T 79 x.toNatClampNeg v → ∀ (H1 : Heap) (locs1 : List Loc), va_P (dC, dI) cls_all (gW LM ad km T1) H1 → va_D A (gW LM ad km T1) → va_S A H0 H1 locs1 → W p l e R s m args below meth c H1 locs1 cells slots Q (F0 m (pc + 1) ls rest)) : W p l e R s m args below meth c H locs cells slots Q (F0 m pc ls (.int v :: .int x :: .ref (ad 57) :: rest)) := gw_iast okM hx hb hK hP hD hS 56 79 20 57 (Nat.le_of_ble_eq_true rfl) rfl rfl rfl rfl rfl hin hdg kk
theorem rd_Model_186 (hx : p.tables.exec = Jvm.exec) (hb : c.code = cc) (hT : ∀ w ∈ lw_good, w.before args s = true) (hown : s.vm.findClass R_Model = some m.cls) (hK : va_K (dC, dI) cls_all (gT LM km) s) (hP : va_P (dC, dI) cls_all (gW LM ad km T) H) (hdg : decode cc pc = .ok (.getfield 186, 3)) (kk : W p l e R s m args below meth c H locs cells slots Q (F0 m (pc + 3) ls (.ref (ad 58) :: rest))) : W p l e R s m args below meth c H locs cells slots Q (F0 m pc ls (.ref (ad 0) :: rest)) := gw_get hx hb hT i_Model hown hK hP 0 80 80 (Nat.le_of_ble_eq_true rfl) rfl rfl (Nat.le_of_ble_eq_true rfl) rfl (gv_a rfl) (hT _ fl_Model_186) (fun _ h9 => h9) hdg kk
theorem laM_57 (hx : p.tables.exec = Jvm.exec) (hb : c.code = cc) (hK : va_K (dC, dI) cls_all (gT LM km) s) (hP : va_P (dC, dI) cls_all (gW LM ad km T) H) {x : Int32} (hin : inb x 20) (hdg : decode cc pc = .ok (.iaload, 1)) (kk : W p l e R s m args below meth c H locs cells slots Q (F0 m (pc + 1) ls (.int (T.1 80 x.toNatClampNeg) :: rest))) : W p l e R s m args below meth c H locs cells slots Q (F0 m pc ls (.int x :: .ref (ad 58) :: rest)) := gw_iald hx hb hK hP 57 80 20 58 (Nat.le_of_ble_eq_true rfl) rfl rfl rfl rfl rfl hin hdg kk
theorem saM_57 (hx : p.tables.exec = Jvm.exec) (hb : c.code = cc) (hK : va_K (dC, dI) cls_all (gT LM km) s) (hP : va_P (dC, dI) cls_all (gW LM ad km T) H) (hD : va_D A (gW LM ad km T)) (hS : va_S A H0 H locs) {x : Int32} {v : Int32} (hin : inb x 20) (hdg : decode cc pc = .ok (.iastore, 1)) (kk : ∀ (T1 : gSt), T1 = sI T 80 x.toNatClampNeg v → ∀ (H1 : Heap) (locs1 : List Loc), va_P (dC, dI) cls_all (gW LM ad km T1) H1 → va_D A (gW LM ad km T1) → va_S A H0 H1 locs1 → W p l e R s m args below meth c H1 locs1 cells slots Q (F0 m (pc + 1) ls rest)) : W p l e R s m args below meth c H locs cells slots Q (F0 m pc ls (.int v :: .int x :: .ref (ad 58) :: rest)) := gw_iast okM hx hb hK hP hD hS 57 80 20 58 (Nat.le_of_ble_eq_true rfl) rfl rfl rfl rfl rfl hin hdg kk
theorem rd_Model_150 (hx : p.tables.exec = Jvm.exec) (hb : c.code = cc) (hT : ∀ w ∈ lw_good, w.before args s = true) (hown : s.vm.findClass R_Model = some m.cls) (hK : va_K (dC, dI) cls_all (gT LM km) s) (hP : va_P (dC, dI) cls_all (gW LM ad km T) H) (hdg : decode cc pc = .ok (.getfield 150, 3)) (kk : W p l e R s m args below meth c H locs cells slots Q (F0 m (pc + 3) ls (.ref (ad 46) :: rest))) : W p l e R s m args below meth c H locs cells slots Q (F0 m pc ls (.ref (ad 0) :: rest)) := gw_get hx hb hT i_Model hown hK hP 0 60 60 (Nat.le_of_ble_eq_true rfl) rfl rfl (Nat.le_of_ble_eq_true rfl) rfl (gv_a rfl) (hT _ fl_Model_150) (fun _ h9 => h9) hdg kk
theorem laM_45 (hx : p.tables.exec = Jvm.exec) (hb : c.code = cc) (hK : va_K (dC, dI) cls_all (gT LM km) s) (hP : va_P (dC, dI) cls_all (gW LM ad km T) H) {x : Int32} (hin : inb x 8200) (hdg : decode cc pc = .ok (.iaload, 1)) (kk : W p l e R s m args below meth c H locs cells slots Q (F0 m (pc + 1) ls (.int (T.1 60 x.toNatClampNeg) :: rest))) : W p l e R s m args below meth c H locs cells slots Q (F0 m pc ls (.int x :: .ref (ad 46) :: rest)) := gw_iald hx hb hK hP 45 60 8200 46 (Nat.le_of_ble_eq_true rfl) rfl rfl rfl rfl rfl hin hdg kk
theorem saM_45 (hx : p.tables.exec = Jvm.exec) (hb : c.code = cc) (hK : va_K (dC, dI) cls_all (gT LM km) s) (hP : va_P (dC, dI) cls_all (gW LM ad km T) H) (hD : va_D A (gW LM ad km T)) (hS : va_S A H0 H locs) {x : Int32} {v : Int32} (hin : inb x 8200) (hdg : decode cc pc = .ok (.iastore, 1)) (kk : ∀ (T1 : gSt), T1 = sI T 60 x.toNatClampNeg v → ∀ (H1 : Heap) (locs1 : List Loc), va_P (dC, dI) cls_all (gW LM ad km T1) H1 → va_D A (gW LM ad km T1) → va_S A H0 H1 locs1 → W p l e R s m args below meth c H1 locs1 cells slots Q (F0 m (pc + 1) ls rest)) : W p l e R s m args below meth c H locs cells slots Q (F0 m pc ls (.int v :: .int x :: .ref (ad 46) :: rest)) := gw_iast okM hx hb hK hP hD hS 45 60 8200 46 (Nat.le_of_ble_eq_true rfl) rfl rfl rfl rfl rfl hin hdg kk
theorem rd_Model_685 (hx : p.tables.exec = Jvm.exec) (hb : c.code = cc) (hT : ∀ w ∈ lw_good, w.before args s = true) (hown : s.vm.findClass R_Model = some m.cls) (hK : va_K (dC, dI) cls_all (gT LM km) s) (hP : va_P (dC, dI) cls_all (gW LM ad km T) H) (hdg : decode cc pc = .ok (.getfield 685, 3)) (kk : W p l e R s m args below meth c H locs cells slots Q (F0 m (pc + 3) ls (.int (T.1 92 0) :: rest))) : W p l e R s m args below meth c H locs cells slots Q (F0 m pc ls (.ref (ad 0) :: rest)) := gw_get hx hb hT i_Model hown hK hP 0 92 92 (Nat.le_of_ble_eq_true rfl) rfl rfl (Nat.le_of_ble_eq_true rfl) rfl (gv_i rfl) (hT _ fl_Model_685) (fun _ h9 => h9) hdg kk
theorem wr_Model_685 (hx : p.tables.exec = Jvm.exec) (hb : c.code = cc) (hT : ∀ w ∈ lw_good, w.before args s = true) (hown : s.vm.findClass R_Model = some m.cls) (hK : va_K (dC, dI) cls_all (gT LM km) s) (hP : va_P (dC, dI) cls_all (gW LM ad km T) H) (hD : va_D A (gW LM ad km T)) (hS : va_S A H0 H locs) {v : Int32} (hdg : decode cc pc = .ok (.putfield 685, 3)) (kk : ∀ (T1 : gSt), T1 = sI T 92 0 v → ∀ (H1 : Heap) (locs1 : List Loc), va_P (dC, dI) cls_all (gW LM ad km T1) H1 → va_D A (gW LM ad km T1) → va_S A H0 H1 locs1 → W p l e R s m args below meth c H1 locs1 cells slots Q (F0 m (pc + 3) ls rest)) : W p l e R s m args below meth c H locs cells slots Q (F0 m pc ls (.int v :: .ref (ad 0) :: rest)) := gw_puti okM hx hb hT i_Model t_Model t_Model_ok n_Model hown hK hP hD hS 0 92 92 (Nat.le_of_ble_eq_true rfl) rfl rfl (Nat.le_of_ble_eq_true rfl) rfl rfl (hT _ fl_Model_685) (fun _ h9 => h9) rfl (ty := .int) (by decide +kernel) rfl rfl hdg kk
theorem rd_Model_627 (hx : p.tables.exec = Jvm.exec) (hb : c.code = cc) (hT : ∀ w ∈ lw_good, w.before args s = true) (hown : s.vm.findClass R_Model = some m.cls) (hK : va_K (dC, dI) cls_all (gT LM km) s) (hP : va_P (dC, dI) cls_all (gW LM ad km T) H) (hdg : decode cc pc = .ok (.getfield 627, 3)) (kk : W p l e R s m args below meth c H locs cells slots Q (F0 m (pc + 3) ls (.int (T.1 82 0) :: rest))) : W p l e R s m args below meth c H locs cells slots Q (F0 m pc ls (.ref (ad 0) :: rest)) := gw_get hx hb hT i_Model hown hK hP 0 82 82 (Nat.le_of_ble_eq_true rfl) rfl rfl (Nat.le_of_ble_eq_true rfl) rfl (gv_i rfl) (hT _ fl_Model_627) (fun _ h9 => h9) hdg kk
theorem rd_Model_698 (hx : p.tables.exec = Jvm.exec) (hb : c.code = cc) (hT : ∀ w ∈ lw_good, w.before args s = true) (hown : s.vm.findClass R_Model = some m.cls) (hK : va_K (dC, dI) cls_all (gT LM km) s) (hP : va_P (dC, dI) cls_all (gW LM ad km T) H) (hdg : decode cc pc = .ok (.getfield 698, 3)) (kk : W p l e R s m args below meth c H locs cells slots Q (F0 m (pc + 3) ls (.int (T.1 90 0) :: rest))) : W p l e R s m args below meth c H locs cells slots Q (F0 m pc ls (.ref (ad 0) :: rest)) := gw_get hx hb hT i_Model hown hK hP 0 90 90 (Nat.le_of_ble_eq_true rfl) rfl rfl (Nat.le_of_ble_eq_true rfl) rfl (gv_i rfl) (hT _ fl_Model_698) (fun _ h9 => h9) hdg kk
theorem wr_Model_698 (hx : p.tables.exec = Jvm.exec) (hb : c.code = cc) (hT : ∀ w ∈ lw_good, w.before args s = true) (hown : s.vm.findClass R_Model = some m.cls) (hK : va_K (dC, dI) cls_all (gT LM km) s) (hP : va_P (dC, dI) cls_all (gW LM ad km T) H) (hD : va_D A (gW LM ad km T)) (hS : va_S A H0 H locs) {v : Int32} (hdg : decode cc pc = .ok (.putfield 698, 3)) (kk : ∀ (T1 : gSt), T1 = sI T 90 0 v → ∀ (H1 : Heap) (locs1 : List Loc), va_P (dC, dI) cls_all (gW LM ad km T1) H1 → va_D A (gW LM ad km T1) → va_S A H0 H1 locs1 → W p l e R s m args below meth c H1 locs1 cells slots Q (F0 m (pc + 3) ls rest)) : W p l e R s m args below meth c H locs cells slots Q (F0 m pc ls (.int v :: .ref (ad 0) :: rest)) := gw_puti okM hx hb hT i_Model t_Model t_Model_ok n_Model hown hK hP hD hS 0 90 90 (Nat.le_of_ble_eq_true rfl) rfl rfl (Nat.le_of_ble_eq_true rfl) rfl rfl (hT _ fl_Model_698) (fun _ h9 => h9) rfl (ty := .int) (by decide +kernel) rfl rfl hdg kk
end GV
def mt_Model_checkBlock (l : Launch) (dC : Nat → ClassId) (dI : Nat → Nat → Nat) (ea ev ad : Nat → Nat) (km : Nat → ClassId) (F : gF) (d : Nat) : Prop := ∀ (T : gSt) (p1 : Int32) (r : Int32) (rl : Int64) (T' : gSt), F 68 T [p1] [] = some (r, rl, T') → GMv l dC dI LM ad km ea ev y_Model_checkBlock w_Model_checkBlock (rmD d) [.ref (ad 0), .int p1] T T'
theorem pd_Model_checkBlock : (y_Model_checkBlock).cls = R_Model ∧ (y_Model_checkBlock).cls ≠ "java/lang/invoke/MethodHandle" ∧ (y_Model_checkBlock).cls ≠ "java/lang/invoke/VarHandle" ∧ (parseMethodDescriptor (y_Model_checkBlock).desc).map (fun d => d.parameters.length) = some 1 := by decide +kernel
def mt_Model_see_JII (l : Launch) (dC : Nat → ClassId) (dI : Nat → Nat → Nat) (ea ev ad : Nat → Nat) (km : Nat → ClassId) (F : gF) (d : Nat) : Prop := ∀ (T : gSt) (p1 : Int64) (p2 : Int32) (p3 : Int32) (r : Int32) (rl : Int64) (T' : gSt), F 66 T [p2, p3] [p1] = some (r, rl, T') → GMv l dC dI LM ad km ea ev y_Model_see_JII w_Model_see_JII (rmD d) [.ref (ad 0), .long p1, .int p2, .int p3] T T'
theorem pd_Model_see_JII : (y_Model_see_JII).cls = R_Model ∧ (y_Model_see_JII).cls ≠ "java/lang/invoke/MethodHandle" ∧ (y_Model_see_JII).cls ≠ "java/lang/invoke/VarHandle" ∧ (parseMethodDescriptor (y_Model_see_JII).desc).map (fun d => d.parameters.length) = some 3 := by decide +kernel
def mt_Model_checkFun (l : Launch) (dC : Nat → ClassId) (dI : Nat → Nat → Nat) (ea ev ad : Nat → Nat) (km : Nat → ClassId) (F : gF) (d : Nat) : Prop := ∀ (T : gSt) (p1 : Int32) (r : Int32) (rl : Int64) (T' : gSt), F 65 T [p1] [] = some (r, rl, T') → GMv l dC dI LM ad km ea ev y_Model_checkFun w_Model_checkFun (rmD d) [.ref (ad 0), .int p1] T T'
theorem pd_Model_checkFun : (y_Model_checkFun).cls = R_Model ∧ (y_Model_checkFun).cls ≠ "java/lang/invoke/MethodHandle" ∧ (y_Model_checkFun).cls ≠ "java/lang/invoke/VarHandle" ∧ (parseMethodDescriptor (y_Model_checkFun).desc).map (fun d => d.parameters.length) = some 1 := by decide +kernel
def mt_Model_stop (l : Launch) (dC : Nat → ClassId) (dI : Nat → Nat → Nat) (ea ev ad : Nat → Nat) (km : Nat → ClassId) (F : gF) (d : Nat) : Prop := ∀ (T : gSt)  (r : Int32) (rl : Int64) (T' : gSt), F 67 T [] [] = some (r, rl, T') → GMv l dC dI LM ad km ea ev y_Model_stop w_Model_stop (rmD d) [.ref (ad 0)] T T'
theorem pd_Model_stop : (y_Model_stop).cls = R_Model ∧ (y_Model_stop).cls ≠ "java/lang/invoke/MethodHandle" ∧ (y_Model_stop).cls ≠ "java/lang/invoke/VarHandle" ∧ (parseMethodDescriptor (y_Model_stop).desc).map (fun d => d.parameters.length) = some 0 := by decide +kernel
def mt_Model_checkStep (l : Launch) (dC : Nat → ClassId) (dI : Nat → Nat → Nat) (ea ev ad : Nat → Nat) (km : Nat → ClassId) (F : gF) (d : Nat) : Prop := ∀ (T : gSt) (p1 : Int32) (r : Int32) (rl : Int64) (T' : gSt), F 70 T [p1] [] = some (r, rl, T') → GMv l dC dI LM ad km ea ev y_Model_checkStep w_Model_checkStep (rmD d) [.ref (ad 0), .int p1] T T'
theorem pd_Model_checkStep : (y_Model_checkStep).cls = R_Model ∧ (y_Model_checkStep).cls ≠ "java/lang/invoke/MethodHandle" ∧ (y_Model_checkStep).cls ≠ "java/lang/invoke/VarHandle" ∧ (parseMethodDescriptor (y_Model_checkStep).desc).map (fun d => d.parameters.length) = some 1 := by decide +kernel
def mt_Model_check (l : Launch) (dC : Nat → ClassId) (dI : Nat → Nat → Nat) (ea ev ad : Nat → Nat) (km : Nat → ClassId) (F : gF) (d : Nat) : Prop := ∀ (T : gSt) (p1 : Int32) (r : Int32) (rl : Int64) (T' : gSt), F 86 T [p1] [] = some (r, rl, T') → GMi l dC dI LM ad km ea ev y_Model_check w_Model_check (rmD d) [.ref (ad 0), .int p1] T r T'
theorem pd_Model_check : (y_Model_check).cls = R_Model ∧ (y_Model_check).cls ≠ "java/lang/invoke/MethodHandle" ∧ (y_Model_check).cls ≠ "java/lang/invoke/VarHandle" ∧ (parseMethodDescriptor (y_Model_check).desc).map (fun d => d.parameters.length) = some 1 := by decide +kernel
def mt_Model_needInt (l : Launch) (dC : Nat → ClassId) (dI : Nat → Nat → Nat) (ea ev ad : Nat → Nat) (km : Nat → ClassId) (F : gF) (d : Nat) : Prop := ∀ (T : gSt) (p1 : Int32) (r : Int32) (rl : Int64) (T' : gSt), F 69 T [p1] [] = some (r, rl, T') → GMv l dC dI LM ad km ea ev y_Model_needInt w_Model_needInt (rmD d) [.ref (ad 0), .int p1] T T'
theorem pd_Model_needInt : (y_Model_needInt).cls = R_Model ∧ (y_Model_needInt).cls ≠ "java/lang/invoke/MethodHandle" ∧ (y_Model_needInt).cls ≠ "java/lang/invoke/VarHandle" ∧ (parseMethodDescriptor (y_Model_needInt).desc).map (fun d => d.parameters.length) = some 1 := by decide +kernel
def mt_Model_checkVar (l : Launch) (dC : Nat → ClassId) (dI : Nat → Nat → Nat) (ea ev ad : Nat → Nat) (km : Nat → ClassId) (F : gF) (d : Nat) : Prop := ∀ (T : gSt) (p1 : Int32) (r : Int32) (rl : Int64) (T' : gSt), F 71 T [p1] [] = some (r, rl, T') → GMv l dC dI LM ad km ea ev y_Model_checkVar w_Model_checkVar (rmD d) [.ref (ad 0), .int p1] T T'
theorem pd_Model_checkVar : (y_Model_checkVar).cls = R_Model ∧ (y_Model_checkVar).cls ≠ "java/lang/invoke/MethodHandle" ∧ (y_Model_checkVar).cls ≠ "java/lang/invoke/VarHandle" ∧ (parseMethodDescriptor (y_Model_checkVar).desc).map (fun d => d.parameters.length) = some 1 := by decide +kernel
def mt_Model_checkIf (l : Launch) (dC : Nat → ClassId) (dI : Nat → Nat → Nat) (ea ev ad : Nat → Nat) (km : Nat → ClassId) (F : gF) (d : Nat) : Prop := ∀ (T : gSt) (p1 : Int32) (r : Int32) (rl : Int64) (T' : gSt), F 77 T [p1] [] = some (r, rl, T') → GMv l dC dI LM ad km ea ev y_Model_checkIf w_Model_checkIf (rmD d) [.ref (ad 0), .int p1] T T'
theorem pd_Model_checkIf : (y_Model_checkIf).cls = R_Model ∧ (y_Model_checkIf).cls ≠ "java/lang/invoke/MethodHandle" ∧ (y_Model_checkIf).cls ≠ "java/lang/invoke/VarHandle" ∧ (parseMethodDescriptor (y_Model_checkIf).desc).map (fun d => d.parameters.length) = some 1 := by decide +kernel
def mt_Model_checkWhile (l : Launch) (dC : Nat → ClassId) (dI : Nat → Nat → Nat) (ea ev ad : Nat → Nat) (km : Nat → ClassId) (F : gF) (d : Nat) : Prop := ∀ (T : gSt) (p1 : Int32) (r : Int32) (rl : Int64) (T' : gSt), F 80 T [p1] [] = some (r, rl, T') → GMv l dC dI LM ad km ea ev y_Model_checkWhile w_Model_checkWhile (rmD d) [.ref (ad 0), .int p1] T T'
theorem pd_Model_checkWhile : (y_Model_checkWhile).cls = R_Model ∧ (y_Model_checkWhile).cls ≠ "java/lang/invoke/MethodHandle" ∧ (y_Model_checkWhile).cls ≠ "java/lang/invoke/VarHandle" ∧ (parseMethodDescriptor (y_Model_checkWhile).desc).map (fun d => d.parameters.length) = some 1 := by decide +kernel
def mt_Model_checkReturn (l : Launch) (dC : Nat → ClassId) (dI : Nat → Nat → Nat) (ea ev ad : Nat → Nat) (km : Nat → ClassId) (F : gF) (d : Nat) : Prop := ∀ (T : gSt) (p1 : Int32) (r : Int32) (rl : Int64) (T' : gSt), F 81 T [p1] [] = some (r, rl, T') → GMv l dC dI LM ad km ea ev y_Model_checkReturn w_Model_checkReturn (rmD d) [.ref (ad 0), .int p1] T T'
theorem pd_Model_checkReturn : (y_Model_checkReturn).cls = R_Model ∧ (y_Model_checkReturn).cls ≠ "java/lang/invoke/MethodHandle" ∧ (y_Model_checkReturn).cls ≠ "java/lang/invoke/VarHandle" ∧ (parseMethodDescriptor (y_Model_checkReturn).desc).map (fun d => d.parameters.length) = some 1 := by decide +kernel
def mt_Model_checkRegion (l : Launch) (dC : Nat → ClassId) (dI : Nat → Nat → Nat) (ea ev ad : Nat → Nat) (km : Nat → ClassId) (F : gF) (d : Nat) : Prop := ∀ (T : gSt) (p1 : Int32) (r : Int32) (rl : Int64) (T' : gSt), F 82 T [p1] [] = some (r, rl, T') → GMv l dC dI LM ad km ea ev y_Model_checkRegion w_Model_checkRegion (rmD d) [.ref (ad 0), .int p1] T T'
theorem pd_Model_checkRegion : (y_Model_checkRegion).cls = R_Model ∧ (y_Model_checkRegion).cls ≠ "java/lang/invoke/MethodHandle" ∧ (y_Model_checkRegion).cls ≠ "java/lang/invoke/VarHandle" ∧ (parseMethodDescriptor (y_Model_checkRegion).desc).map (fun d => d.parameters.length) = some 1 := by decide +kernel
def mt_Model_checkClose (l : Launch) (dC : Nat → ClassId) (dI : Nat → Nat → Nat) (ea ev ad : Nat → Nat) (km : Nat → ClassId) (F : gF) (d : Nat) : Prop := ∀ (T : gSt) (p1 : Int32) (r : Int32) (rl : Int64) (T' : gSt), F 83 T [p1] [] = some (r, rl, T') → GMv l dC dI LM ad km ea ev y_Model_checkClose w_Model_checkClose (rmD d) [.ref (ad 0), .int p1] T T'
theorem pd_Model_checkClose : (y_Model_checkClose).cls = R_Model ∧ (y_Model_checkClose).cls ≠ "java/lang/invoke/MethodHandle" ∧ (y_Model_checkClose).cls ≠ "java/lang/invoke/VarHandle" ∧ (parseMethodDescriptor (y_Model_checkClose).desc).map (fun d => d.parameters.length) = some 1 := by decide +kernel
def mt_Model_checkTry (l : Launch) (dC : Nat → ClassId) (dI : Nat → Nat → Nat) (ea ev ad : Nat → Nat) (km : Nat → ClassId) (F : gF) (d : Nat) : Prop := ∀ (T : gSt) (p1 : Int32) (r : Int32) (rl : Int64) (T' : gSt), F 84 T [p1] [] = some (r, rl, T') → GMv l dC dI LM ad km ea ev y_Model_checkTry w_Model_checkTry (rmD d) [.ref (ad 0), .int p1] T T'
theorem pd_Model_checkTry : (y_Model_checkTry).cls = R_Model ∧ (y_Model_checkTry).cls ≠ "java/lang/invoke/MethodHandle" ∧ (y_Model_checkTry).cls ≠ "java/lang/invoke/VarHandle" ∧ (parseMethodDescriptor (y_Model_checkTry).desc).map (fun d => d.parameters.length) = some 1 := by decide +kernel
def mt_Model_checkSet (l : Launch) (dC : Nat → ClassId) (dI : Nat → Nat → Nat) (ea ev ad : Nat → Nat) (km : Nat → ClassId) (F : gF) (d : Nat) : Prop := ∀ (T : gSt) (p1 : Int32) (r : Int32) (rl : Int64) (T' : gSt), F 73 T [p1] [] = some (r, rl, T') → GMv l dC dI LM ad km ea ev y_Model_checkSet w_Model_checkSet (rmD d) [.ref (ad 0), .int p1] T T'
theorem pd_Model_checkSet : (y_Model_checkSet).cls = R_Model ∧ (y_Model_checkSet).cls ≠ "java/lang/invoke/MethodHandle" ∧ (y_Model_checkSet).cls ≠ "java/lang/invoke/VarHandle" ∧ (parseMethodDescriptor (y_Model_checkSet).desc).map (fun d => d.parameters.length) = some 1 := by decide +kernel
def mt_Model_give (l : Launch) (dC : Nat → ClassId) (dI : Nat → Nat → Nat) (ea ev ad : Nat → Nat) (km : Nat → ClassId) (F : gF) (d : Nat) : Prop := ∀ (T : gSt) (p1 : Int32) (p2 : Int32) (p3 : Int32) (p4 : Int32) (r : Int32) (rl : Int64) (T' : gSt), F 72 T [p1, p2, p3, p4] [] = some (r, rl, T') → GMv l dC dI LM ad km ea ev y_Model_give w_Model_give (rmD d) [.ref (ad 0), .int p1, .int p2, .int p3, .int p4] T T'
theorem pd_Model_give : (y_Model_give).cls = R_Model ∧ (y_Model_give).cls ≠ "java/lang/invoke/MethodHandle" ∧ (y_Model_give).cls ≠ "java/lang/invoke/VarHandle" ∧ (parseMethodDescriptor (y_Model_give).desc).map (fun d => d.parameters.length) = some 4 := by decide +kernel
def mt_Model_asked (l : Launch) (dC : Nat → ClassId) (dI : Nat → Nat → Nat) (ea ev ad : Nat → Nat) (km : Nat → ClassId) (F : gF) (d : Nat) : Prop := ∀ (T : gSt) (p1 : Int32) (p2 : Int32) (r : Int32) (rl : Int64) (T' : gSt), F 74 T [p1, p2] [] = some (r, rl, T') → GMi l dC dI LM ad km ea ev y_Model_asked w_Model_asked (rmD d) [.ref (ad 0), .int p1, .int p2] T r T'
theorem pd_Model_asked : (y_Model_asked).cls = R_Model ∧ (y_Model_asked).cls ≠ "java/lang/invoke/MethodHandle" ∧ (y_Model_asked).cls ≠ "java/lang/invoke/VarHandle" ∧ (parseMethodDescriptor (y_Model_asked).desc).map (fun d => d.parameters.length) = some 2 := by decide +kernel
def mt_Model_knowing (l : Launch) (dC : Nat → ClassId) (dI : Nat → Nat → Nat) (ea ev ad : Nat → Nat) (km : Nat → ClassId) (F : gF) (d : Nat) : Prop := ∀ (T : gSt) (p1 : Int32) (r : Int32) (rl : Int64) (T' : gSt), F 75 T [p1] [] = some (r, rl, T') → GMv l dC dI LM ad km ea ev y_Model_knowing w_Model_knowing (rmD d) [.ref (ad 0), .int p1] T T'
theorem pd_Model_knowing : (y_Model_knowing).cls = R_Model ∧ (y_Model_knowing).cls ≠ "java/lang/invoke/MethodHandle" ∧ (y_Model_knowing).cls ≠ "java/lang/invoke/VarHandle" ∧ (parseMethodDescriptor (y_Model_knowing).desc).map (fun d => d.parameters.length) = some 1 := by decide +kernel
def mt_Model_checkCondition (l : Launch) (dC : Nat → ClassId) (dI : Nat → Nat → Nat) (ea ev ad : Nat → Nat) (km : Nat → ClassId) (F : gF) (d : Nat) : Prop := ∀ (T : gSt) (p1 : Int32) (r : Int32) (rl : Int64) (T' : gSt), F 76 T [p1] [] = some (r, rl, T') → GMv l dC dI LM ad km ea ev y_Model_checkCondition w_Model_checkCondition (rmD d) [.ref (ad 0), .int p1] T T'
theorem pd_Model_checkCondition : (y_Model_checkCondition).cls = R_Model ∧ (y_Model_checkCondition).cls ≠ "java/lang/invoke/MethodHandle" ∧ (y_Model_checkCondition).cls ≠ "java/lang/invoke/VarHandle" ∧ (parseMethodDescriptor (y_Model_checkCondition).desc).map (fun d => d.parameters.length) = some 1 := by decide +kernel
def mt_Model_meet (l : Launch) (dC : Nat → ClassId) (dI : Nat → Nat → Nat) (ea ev ad : Nat → Nat) (km : Nat → ClassId) (F : gF) (d : Nat) : Prop := ∀ (T : gSt) (p1 : Int32) (p2 : Int32) (p3 : Int32) (p4 : Int32) (p5 : Int32) (r : Int32) (rl : Int64) (T' : gSt), F 78 T [p1, p2, p3, p4, p5] [] = some (r, rl, T') → GMv l dC dI LM ad km ea ev y_Model_meet w_Model_meet (rmD d) [.ref (ad 0), .int p1, .int p2, .int p3, .int p4, .int p5] T T'
theorem pd_Model_meet : (y_Model_meet).cls = R_Model ∧ (y_Model_meet).cls ≠ "java/lang/invoke/MethodHandle" ∧ (y_Model_meet).cls ≠ "java/lang/invoke/VarHandle" ∧ (parseMethodDescriptor (y_Model_meet).desc).map (fun d => d.parameters.length) = some 5 := by decide +kernel
def mt_Model_given (l : Launch) (dC : Nat → ClassId) (dI : Nat → Nat → Nat) (ea ev ad : Nat → Nat) (km : Nat → ClassId) (F : gF) (d : Nat) : Prop := ∀ (T : gSt) (p1 : Int32) (r : Int32) (rl : Int64) (T' : gSt), F 79 T [p1] [] = some (r, rl, T') → GMi l dC dI LM ad km ea ev y_Model_given w_Model_given (rmD d) [.ref (ad 0), .int p1] T r T'
theorem pd_Model_given : (y_Model_given).cls = R_Model ∧ (y_Model_given).cls ≠ "java/lang/invoke/MethodHandle" ∧ (y_Model_given).cls ≠ "java/lang/invoke/VarHandle" ∧ (parseMethodDescriptor (y_Model_given).desc).map (fun d => d.parameters.length) = some 1 := by decide +kernel
set_option maxHeartbeats 4000000 in
set_option maxRecDepth 100000 in
theorem sp_Model_checkFun (l : Launch) (dC : Nat → ClassId) (dI : Nat → Nat → Nat) (ea ev ad : Nat → Nat) (km : Nat → ClassId) (F : gF) (nf d : Nat) (h_Model_seeRegions : mt_Model_seeRegions l dC dI ea ev ad km F d) (h_Model_regionOfItem : mt_Model_regionOfItem l dC dI ea ev ad km F d) (h_Model_checkBlock : mt_Model_checkBlock l dC dI ea ev ad km F d) (h_Model_bad : mt_Model_bad l dC dI ea ev ad km F d) (h_Model_fail : mt_Model_fail l dC dI ea ev ad km F d) (h_Model_see_JII : mt_Model_see_JII l dC dI ea ev ad km F d) (T0 : gSt) (p1 : Int32) (r0 : Int32) (rl0 : Int64) (T9 : gSt) (hR : rb_Model_checkFun F nf T0 p1 = some (r0, rl0, T9)) : GMv l dC dI LM ad km ea ev y_Model_checkFun w_Model_checkFun (rmD (d + 1)) [.ref (ad 0), .int p1] T0 T9 := by
  intro sz
  refine Met.ofW (cc := b_Model_checkFun) (maxL := 5) (ret := none) (by decide) rfl ?_
  intro p e s m args below meth c s₁ B hml hv
  obtain ⟨rfl, hsz, hP, hK, hD0, hnw, henv⟩ := hv
  have hx := B.exec
  have hb := B.bytes
  have hr := B.returns
  have hT : ∀ w ∈ lw_good, w.before _ s = true := fun w h => atoms_spec (ws := w_Model_checkFun) B.pre w (List.mem_cons_of_mem _ h)
  have hown : s.vm.findClass R_Model = some m.cls := findClass_of_methodNamed B.named
  subst hsz
  have hD := hD0.self (sz := s.heap.size)
  clear hD0
  generalize hAe : va_A (gW LM ad km T0) s.heap.size = A at hD henv ⊢
  have hA : ∀ q : Nat, s.heap.size ≤ q → A q := fun q h => by rw [← hAe]; exact Or.inr h
  have hS : va_S A s.heap s.heap [] := va_S.rf
  have hl := lv_entry ([.ref (ad 0), .int p1]) (n := 5) (Nat.le_of_ble_eq_true rfl)
  rw [lg_entry_eq]
  generalize (lg_sl ([.ref (ad 0), .int p1]) ++ List.replicate (5 - (lg_sl ([.ref (ad 0), .int p1])).length) Slot.unset).toArray = ls at hl ⊢
  have hl : lv_has ls 5 [(0, .ref (ad 0)), (1, .int p1)] := hl
  obtain ⟨G, hG⟩ : ∃ G : Nat → List (Nat × Value) → List Value → gSt → Prop, G = (fun pc lv stk T => ∀ (H : Heap) (locs : List Loc), va_P (dC, dI) cls_all (gW LM ad km T) H → va_D A (gW LM ad km T) → va_S A s.heap H locs → ∀ (ls : Array Slot), lv_has ls 5 lv → W p l e (headSpec w_Model_checkFun (rmD (d + 1))).room s m ([.ref (ad 0), .int p1] : List Value).toArray below meth c H locs 0 0 (MQ below (va_Qv (fun (_ : Unit) => True) (fun _ t => gPost dC dI LM ad km T9 A t) A) ([.ref (ad 0), .int p1] : List Value).toArray s 0 0 A) (F0 m pc ls stk)) := ⟨_, rfl⟩
  have lb_232 : ∀ (n : Nat) (T : gSt) (x1 : Int32) (x2 : Int32), rl_Model_checkFun_232 F nf n T x1 x2 = some (r0, rl0, T9) → G 232 [(0, .ref (ad 0)), (1, .int x1), (2, .int x2)] [] T := by
    intro n
    induction n with
    | zero => intro T x1 x2 hR; rw [rl_Model_checkFun_232] at hR; cases hR
    | succ n ih =>
      intro T x1 x2 hR; rw [rl_Model_checkFun_232] at hR; rw [hG]; intro H locs hP hD hS ls hl
      refine lv_iload_n hx hb d_Model_checkFun_232 rfl (lv_at hl 2 rfl) ?_
      refine lv_aload_n hx hb d_Model_checkFun_233 rfl (lv_at hl 0 rfl) ?_
      refine rd_Model_39 hx hb hT hown hK hP d_Model_checkFun_234 ?_
      refine lv_iload_n hx hb d_Model_checkFun_237 rfl (lv_at hl 1 rfl) ?_
      replace hR := gd_e hR
      obtain ⟨b31, hR⟩ := hR
      refine laM_8 hx hb hK hP b31 d_Model_checkFun_238 ?_
      refine lv_icmp_ge (tgt := 291) hx hb d_Model_checkFun_239 (by decide) (fun c32 => ?_) (fun c32 => ?_)
      · replace hR := if_p c32 hR
        refine lv_aload_n hx hb d_Model_checkFun_291 rfl (lv_at hl 0 rfl) ?_
        refine lv_aload_n hx hb d_Model_checkFun_292 rfl (lv_at hl 0 rfl) ?_
        refine rd_Model_81 hx hb hT hown hK hP d_Model_checkFun_293 ?_
        refine lv_iload_n hx hb d_Model_checkFun_296 rfl (lv_at hl 1 rfl) ?_
        replace hR := gd_e hR
        obtain ⟨b33, hR⟩ := hR
        refine laM_22 hx hb hK hP b33 d_Model_checkFun_297 ?_
        replace hR := bi_e hR
        obtain ⟨r34, l34, T34, hc34, hR⟩ := hR
        refine gcV_v (rest := []) ⟨hx, hb, hml, hown, hT⟩ (h_Model_checkBlock _ _ _ _ _ hc34) (cwV 1 hT (gV ml_Model_646 im_Model_checkBlock se_Model_checkBlock ini_Model co_Model_checkBlock) rfl rfl rfl pd_Model_checkBlock ⟨rm_hi, rm_lo (Nat.le_of_ble_eq_true rfl)⟩) hK hP hD hS hA hnw henv (Nat.le_of_ble_eq_true rfl) rfl rfl hl.1 rfl (Nat.le_of_ble_eq_true rfl) d_Model_checkFun_298 ⟨Nat.le_refl _, Nat.le_refl _⟩ (fun H locs hP hD hS => ?_)
        clear hc34
        refine lv_aload_n hx hb d_Model_checkFun_301 rfl (lv_at hl 0 rfl) ?_
        replace hR := bi_e hR
        obtain ⟨r35, l35, T35, hc35, hR⟩ := hR
        refine gcV_i (rest := []) ⟨hx, hb, hml, hown, hT⟩ (h_Model_bad _ _ _ _ hc35) (cwV 0 hT (gV ml_Model_385 im_Model_bad se_Model_bad ini_Model co_Model_bad) rfl rfl rfl pd_Model_bad ⟨rm_hi, rm_lo (Nat.le_of_ble_eq_true rfl)⟩) hK hP hD hS hA hnw henv (Nat.le_of_ble_eq_true rfl) rfl rfl hl.1 rfl (Nat.le_of_ble_eq_true rfl) d_Model_checkFun_302 ⟨Nat.le_refl _, Nat.le_refl _⟩ (fun H locs hP hD hS => ?_)
        clear hc35
        refine lv_if_ne (tgt := 341) hx hb d_Model_checkFun_305 (by decide) (fun c36 => ?_) (fun c36 => ?_)
        · replace hR := if_n c36 hR
          obtain ⟨-, -, e3⟩ := re_e hR
          subst e3
          exact W.vret hx hb hr (fun t ht hW => ⟨⟨(), rfl, trivial, by rw [ht]; exact hP, va_K.moved hW.alike hK, hD⟩, hS.F ht⟩) hS.2.2 d_Model_checkFun_341
        · replace hR := if_p c36 hR
          refine lv_aload_n hx hb d_Model_checkFun_308 rfl (lv_at hl 0 rfl) ?_
          refine rd_Model_54 hx hb hT hown hK hP d_Model_checkFun_309 ?_
          refine lv_iload_n hx hb d_Model_checkFun_312 rfl (lv_at hl 1 rfl) ?_
          replace hR := gd_e hR
          obtain ⟨b37, hR⟩ := hR
          refine laM_13 hx hb hK hP b37 d_Model_checkFun_313 ?_
          refine lv_if_lt (tgt := 341) hx hb d_Model_checkFun_314 (by decide) (fun c38 => ?_) (fun c38 => ?_)
          · replace hR := if_p c38 hR
            obtain ⟨-, -, e3⟩ := re_e hR
            subst e3
            exact W.vret hx hb hr (fun t ht hW => ⟨⟨(), rfl, trivial, by rw [ht]; exact hP, va_K.moved hW.alike hK, hD⟩, hS.F ht⟩) hS.2.2 d_Model_checkFun_341
          · replace hR := if_n c38 hR
            refine lv_aload_n hx hb d_Model_checkFun_317 rfl (lv_at hl 0 rfl) ?_
            refine rd_Model_630 hx hb hT hown hK hP d_Model_checkFun_318 ?_
            refine lv_if_eq (tgt := 341) hx hb d_Model_checkFun_321 (by decide) (fun c39 => ?_) (fun c39 => ?_)
            · replace hR := if_p c39 hR
              obtain ⟨-, -, e3⟩ := re_e hR
              subst e3
              exact W.vret hx hb hr (fun t ht hW => ⟨⟨(), rfl, trivial, by rw [ht]; exact hP, va_K.moved hW.alike hK, hD⟩, hS.F ht⟩) hS.2.2 d_Model_checkFun_341
            · replace hR := if_n c39 hR
              refine lv_aload_n hx hb d_Model_checkFun_324 rfl (lv_at hl 0 rfl) ?_
              refine lv_bipush (v := 8) hx hb d_Model_checkFun_325 (by decide) ?_
              refine lv_aload_n hx hb d_Model_checkFun_327 rfl (lv_at hl 0 rfl) ?_
              refine rd_Model_141 hx hb hT hown hK hP d_Model_checkFun_328 ?_
              refine lv_aload_n hx hb d_Model_checkFun_331 rfl (lv_at hl 0 rfl) ?_
              refine rd_Model_81 hx hb hT hown hK hP d_Model_checkFun_332 ?_
              refine lv_iload_n hx hb d_Model_checkFun_335 rfl (lv_at hl 1 rfl) ?_
              replace hR := gd_e hR
              obtain ⟨b40, hR⟩ := hR
              refine laM_22 hx hb hK hP b40 d_Model_checkFun_336 ?_
              replace hR := gd_e hR
              obtain ⟨b41, hR⟩ := hR
              refine laM_42 hx hb hK hP b41 d_Model_checkFun_337 ?_
              replace hR := bi_e hR
              obtain ⟨r42, l42, T42, hc42, hR⟩ := hR
              refine gcV_v (rest := []) ⟨hx, hb, hml, hown, hT⟩ (h_Model_fail _ _ _ _ _ _ hc42) (cwV 2 hT (gV ml_Model_381 im_Model_fail se_Model_fail ini_Model co_Model_fail) rfl rfl rfl pd_Model_fail ⟨rm_hi, rm_lo (Nat.le_of_ble_eq_true rfl)⟩) hK hP hD hS hA hnw henv (Nat.le_of_ble_eq_true rfl) rfl rfl hl.1 rfl (Nat.le_of_ble_eq_true rfl) d_Model_checkFun_338 ⟨Nat.le_refl _, Nat.le_refl _⟩ (fun H locs hP hD hS => ?_)
              clear hc42
              obtain ⟨-, -, e3⟩ := re_e hR
              subst e3
              exact W.vret hx hb hr (fun t ht hW => ⟨⟨(), rfl, trivial, by rw [ht]; exact hP, va_K.moved hW.alike hK, hD⟩, hS.F ht⟩) hS.2.2 d_Model_checkFun_341
      · replace hR := if_n c32 hR
        refine lv_aload_n hx hb d_Model_checkFun_242 rfl (lv_at hl 0 rfl) ?_
        refine lv_aload_n hx hb d_Model_checkFun_243 rfl (lv_at hl 0 rfl) ?_
        refine rd_Model_42 hx hb hT hown hK hP d_Model_checkFun_244 ?_
        refine lv_aload_n hx hb d_Model_checkFun_247 rfl (lv_at hl 0 rfl) ?_
        refine rd_Model_36 hx hb hT hown hK hP d_Model_checkFun_248 ?_
        refine lv_iload_n hx hb d_Model_checkFun_251 rfl (lv_at hl 1 rfl) ?_
        replace hR := gd_e hR
        obtain ⟨b43, hR⟩ := hR
        refine laM_7 hx hb hK hP b43 d_Model_checkFun_252 ?_
        refine lv_iload_n hx hb d_Model_checkFun_253 rfl (lv_at hl 2 rfl) ?_
        refine lv_iadd hx hb d_Model_checkFun_254 ?_
        replace hR := gd_e hR
        obtain ⟨b44, hR⟩ := hR
        refine laM_9 hx hb hK hP b44 d_Model_checkFun_255 ?_
        refine lv_iload_n hx hb d_Model_checkFun_256 rfl (lv_at hl 2 rfl) ?_
        refine lv_aload_n hx hb d_Model_checkFun_257 rfl (lv_at hl 0 rfl) ?_
        refine rd_Model_51 hx hb hT hown hK hP d_Model_checkFun_258 ?_
        refine lv_aload_n hx hb d_Model_checkFun_261 rfl (lv_at hl 0 rfl) ?_
        refine rd_Model_36 hx hb hT hown hK hP d_Model_checkFun_262 ?_
        refine lv_iload_n hx hb d_Model_checkFun_265 rfl (lv_at hl 1 rfl) ?_
        replace hR := gd_e hR
        obtain ⟨b45, hR⟩ := hR
        refine laM_7 hx hb hK hP b45 d_Model_checkFun_266 ?_
        refine lv_iload_n hx hb d_Model_checkFun_267 rfl (lv_at hl 2 rfl) ?_
        refine lv_iadd hx hb d_Model_checkFun_268 ?_
        replace hR := gd_e hR
        obtain ⟨b46, hR⟩ := hR
        refine laM_12 hx hb hK hP b46 d_Model_checkFun_269 ?_
        replace hR := bi_e hR
        obtain ⟨r47, l47, T47, hc47, hR⟩ := hR
        refine gcV_v (rest := []) ⟨hx, hb, hml, hown, hT⟩ (h_Model_see_JII _ _ _ _ _ _ _ hc47) (cwV 3 hT (gV ml_Model_643 im_Model_see_JII se_Model_see_JII ini_Model co_Model_see_JII) rfl rfl rfl pd_Model_see_JII ⟨rm_hi, rm_lo (Nat.le_of_ble_eq_true rfl)⟩) hK hP hD hS hA hnw henv (Nat.le_of_ble_eq_true rfl) rfl rfl hl.1 rfl (Nat.le_of_ble_eq_true rfl) d_Model_checkFun_270 ⟨Nat.le_refl _, Nat.le_refl _⟩ (fun H locs hP hD hS => ?_)
        clear hc47
        refine lv_aload_n hx hb d_Model_checkFun_273 rfl (lv_at hl 0 rfl) ?_
        refine lv_dup hx hb d_Model_checkFun_274 rfl ?_
        refine rd_Model_624 hx hb hT hown hK hP d_Model_checkFun_275 ?_
        refine lv_iconst (v := 1) hx hb d_Model_checkFun_278 (by decide) ?_
        refine lv_iload_n hx hb d_Model_checkFun_279 rfl (lv_at hl 2 rfl) ?_
        refine lv_ishl hx hb d_Model_checkFun_280 ?_
        refine lv_ior hx hb d_Model_checkFun_281 ?_
        refine wr_Model_624 hx hb hT hown hK hP hD hS d_Model_checkFun_282 (fun T48 eT H locs hP hD hS => ?_)
        replace hR := stK_e eT hR
        clear eT
        obtain ⟨z49, e49⟩ : ∃ y : Int32, y = x2 + (1 : Int32) := ⟨_, rfl⟩
        replace hR := vK_e e49 hR
        refine lv_iinc (v := z49) (lv' := [(2, .int z49), (0, .ref (ad 0)), (1, .int x1)]) hx hb d_Model_checkFun_285 hl (k := 2) rfl (by rw [e49]; rfl) (by decide) rfl (fun ls hl => ?_)
        refine lv_goto (tgt := 232) hx hb d_Model_checkFun_288 (by decide) ?_
        have g := ih T48 x1 z49 hR
        rw [hG] at g
        exact g _ _ hP hD hS _ (lv_sub hl [1, 2, 0] rfl)
  have lb_126 : ∀ (rec_111 : gSt → Int32 → Int32 → gR) (hrec_111 : ∀ (T : gSt) (x1 : Int32) (x2 : Int32), rec_111 T x1 x2 = some (r0, rl0, T9) → G 111 [(0, .ref (ad 0)), (1, .int x1), (2, .int x2)] [] T) (rec_118 : gSt → Int32 → Int32 → Int32 → gR) (hrec_118 : ∀ (T : gSt) (x1 : Int32) (x2 : Int32) (x3 : Int32), rec_118 T x1 x2 x3 = some (r0, rl0, T9) → G 118 [(0, .ref (ad 0)), (1, .int x1), (2, .int x2), (3, .int x3)] [] T) (n : Nat) (T : gSt) (x1 : Int32) (x2 : Int32) (x3 : Int32) (x4 : Int32), rl_Model_checkFun_126 F nf rec_111 rec_118 n T x1 x2 x3 x4 = some (r0, rl0, T9) → G 126 [(0, .ref (ad 0)), (1, .int x1), (2, .int x2), (3, .int x3), (4, .int x4)] [] T := by
    intro rec_111 hrec_111 rec_118 hrec_118 n
    induction n with
    | zero => intro T x1 x2 x3 x4 hR; rw [rl_Model_checkFun_126] at hR; cases hR
    | succ n ih =>
      intro T x1 x2 x3 x4 hR; rw [rl_Model_checkFun_126] at hR; rw [hG]; intro H locs hP hD hS ls hl
      refine lv_iload hx hb d_Model_checkFun_126 (lv_at hl 4 rfl) ?_
      refine lv_iconst (v := 4) hx hb d_Model_checkFun_128 (by decide) ?_
      refine lv_icmp_ge (tgt := 183) hx hb d_Model_checkFun_129 (by decide) (fun c25 => ?_) (fun c25 => ?_)
      · replace hR := if_p c25 hR
        obtain ⟨z26, e26⟩ : ∃ y : Int32, y = x3 + (1 : Int32) := ⟨_, rfl⟩
        replace hR := vK_e e26 hR
        refine lv_iinc (v := z26) (lv' := [(3, .int z26), (0, .ref (ad 0)), (1, .int x1), (2, .int x2), (4, .int x4)]) hx hb d_Model_checkFun_183 hl (k := 3) rfl (by rw [e26]; rfl) (by decide) rfl (fun ls hl => ?_)
        refine lv_goto (tgt := 118) hx hb d_Model_checkFun_186 (by decide) ?_
        have g := hrec_118 T x1 x2 z26 hR
        rw [hG] at g
        exact g _ _ hP hD hS _ (lv_sub hl [1, 2, 3, 0] rfl)
      · replace hR := if_n c25 hR
        refine lv_aload_n hx hb d_Model_checkFun_132 rfl (lv_at hl 0 rfl) ?_
        refine rd_Model_593 hx hb hT hown hK hP d_Model_checkFun_133 ?_
        refine lv_iconst (v := 4) hx hb d_Model_checkFun_136 (by decide) ?_
        refine lv_iload_n hx hb d_Model_checkFun_137 rfl (lv_at hl 3 rfl) ?_
        refine lv_imul hx hb d_Model_checkFun_138 ?_
        refine lv_iload_n hx hb d_Model_checkFun_139 rfl (lv_at hl 2 rfl) ?_
        refine lv_iadd hx hb d_Model_checkFun_140 ?_
        refine lv_ishr hx hb d_Model_checkFun_141 ?_
        refine lv_aload_n hx hb d_Model_checkFun_142 rfl (lv_at hl 0 rfl) ?_
        refine rd_Model_593 hx hb hT hown hK hP d_Model_checkFun_143 ?_
        refine lv_iconst (v := 4) hx hb d_Model_checkFun_146 (by decide) ?_
        refine lv_iload_n hx hb d_Model_checkFun_147 rfl (lv_at hl 2 rfl) ?_
        refine lv_imul hx hb d_Model_checkFun_148 ?_
        refine lv_iload hx hb d_Model_checkFun_149 (lv_at hl 4 rfl) ?_
        refine lv_iadd hx hb d_Model_checkFun_151 ?_
        refine lv_ishr hx hb d_Model_checkFun_152 ?_
        refine lv_iand hx hb d_Model_checkFun_153 ?_
        refine lv_iconst (v := 1) hx hb d_Model_checkFun_154 (by decide) ?_
        refine lv_iand hx hb d_Model_checkFun_155 ?_
        refine lv_iconst (v := 1) hx hb d_Model_checkFun_156 (by decide) ?_
        refine lv_icmp_ne (tgt := 177) hx hb d_Model_checkFun_157 (by decide) (fun c27 => ?_) (fun c27 => ?_)
        · replace hR := if_n c27 hR
          obtain ⟨z28, e28⟩ : ∃ y : Int32, y = x4 + (1 : Int32) := ⟨_, rfl⟩
          replace hR := vK_e e28 hR
          refine lv_iinc (v := z28) (lv' := [(4, .int z28), (0, .ref (ad 0)), (1, .int x1), (2, .int x2), (3, .int x3)]) hx hb d_Model_checkFun_177 hl (k := 4) rfl (by rw [e28]; rfl) (by decide) rfl (fun ls hl => ?_)
          refine lv_goto (tgt := 126) hx hb d_Model_checkFun_180 (by decide) ?_
          have g := ih T x1 x2 x3 z28 hR
          rw [hG] at g
          exact g _ _ hP hD hS _ (lv_sub hl [1, 2, 3, 4, 0] rfl)
        · replace hR := if_p c27 hR
          refine lv_aload_n hx hb d_Model_checkFun_160 rfl (lv_at hl 0 rfl) ?_
          refine lv_dup hx hb d_Model_checkFun_161 rfl ?_
          refine rd_Model_593 hx hb hT hown hK hP d_Model_checkFun_162 ?_
          refine lv_iconst (v := 1) hx hb d_Model_checkFun_165 (by decide) ?_
          refine lv_iconst (v := 4) hx hb d_Model_checkFun_166 (by decide) ?_
          refine lv_iload_n hx hb d_Model_checkFun_167 rfl (lv_at hl 3 rfl) ?_
          refine lv_imul hx hb d_Model_checkFun_168 ?_
          refine lv_iload hx hb d_Model_checkFun_169 (lv_at hl 4 rfl) ?_
          refine lv_iadd hx hb d_Model_checkFun_171 ?_
          refine lv_ishl hx hb d_Model_checkFun_172 ?_
          refine lv_ior hx hb d_Model_checkFun_173 ?_
          refine wr_Model_593 hx hb hT hown hK hP hD hS d_Model_checkFun_174 (fun T29 eT H locs hP hD hS => ?_)
          replace hR := stK_e eT hR
          clear eT
          obtain ⟨z30, e30⟩ : ∃ y : Int32, y = x4 + (1 : Int32) := ⟨_, rfl⟩
          replace hR := vK_e e30 hR
          refine lv_iinc (v := z30) (lv' := [(4, .int z30), (0, .ref (ad 0)), (1, .int x1), (2, .int x2), (3, .int x3)]) hx hb d_Model_checkFun_177 hl (k := 4) rfl (by rw [e30]; rfl) (by decide) rfl (fun ls hl => ?_)
          refine lv_goto (tgt := 126) hx hb d_Model_checkFun_180 (by decide) ?_
          have g := ih T29 x1 x2 x3 z30 hR
          rw [hG] at g
          exact g _ _ hP hD hS _ (lv_sub hl [1, 2, 3, 4, 0] rfl)
  have lb_118 : ∀ (rec_111 : gSt → Int32 → Int32 → gR) (hrec_111 : ∀ (T : gSt) (x1 : Int32) (x2 : Int32), rec_111 T x1 x2 = some (r0, rl0, T9) → G 111 [(0, .ref (ad 0)), (1, .int x1), (2, .int x2)] [] T) (n : Nat) (T : gSt) (x1 : Int32) (x2 : Int32) (x3 : Int32), rl_Model_checkFun_118 F nf rec_111 n T x1 x2 x3 = some (r0, rl0, T9) → G 118 [(0, .ref (ad 0)), (1, .int x1), (2, .int x2), (3, .int x3)] [] T := by
    intro rec_111 hrec_111 n
    induction n with
    | zero => intro T x1 x2 x3 hR; rw [rl_Model_checkFun_118] at hR; cases hR
    | succ n ih =>
      intro T x1 x2 x3 hR; rw [rl_Model_checkFun_118] at hR; rw [hG]; intro H locs hP hD hS ls hl
      refine lv_iload_n hx hb d_Model_checkFun_118 rfl (lv_at hl 3 rfl) ?_
      refine lv_iconst (v := 4) hx hb d_Model_checkFun_119 (by decide) ?_
      refine lv_icmp_ge (tgt := 189) hx hb d_Model_checkFun_120 (by decide) (fun c23 => ?_) (fun c23 => ?_)
      · replace hR := if_p c23 hR
        obtain ⟨z24, e24⟩ : ∃ y : Int32, y = x2 + (1 : Int32) := ⟨_, rfl⟩
        replace hR := vK_e e24 hR
        refine lv_iinc (v := z24) (lv' := [(2, .int z24), (0, .ref (ad 0)), (1, .int x1), (3, .int x3)]) hx hb d_Model_checkFun_189 hl (k := 2) rfl (by rw [e24]; rfl) (by decide) rfl (fun ls hl => ?_)
        refine lv_goto (tgt := 111) hx hb d_Model_checkFun_192 (by decide) ?_
        have g := hrec_111 T x1 z24 hR
        rw [hG] at g
        exact g _ _ hP hD hS _ (lv_sub hl [1, 2, 0] rfl)
      · replace hR := if_n c23 hR
        refine lv_iconst (v := 1) hx hb d_Model_checkFun_123 (by decide) ?_
        refine lv_istore (lv' := [(4, .int (1 : Int32)), (0, .ref (ad 0)), (1, .int x1), (2, .int x2), (3, .int x3)]) hx hb d_Model_checkFun_124 hl (by decide) rfl (fun ls hl => ?_)
        have g := lb_126 rec_111 hrec_111 (rl_Model_checkFun_118 F nf rec_111 n) ih nf T x1 x2 x3 (1 : Int32) hR
        rw [hG] at g
        exact g _ _ hP hD hS _ (lv_sub hl [1, 2, 3, 4, 0] rfl)
  have lb_111 : ∀ (n : Nat) (T : gSt) (x1 : Int32) (x2 : Int32), rl_Model_checkFun_111 F nf n T x1 x2 = some (r0, rl0, T9) → G 111 [(0, .ref (ad 0)), (1, .int x1), (2, .int x2)] [] T := by
    intro n
    induction n with
    | zero => intro T x1 x2 hR; rw [rl_Model_checkFun_111] at hR; cases hR
    | succ n ih =>
      intro T x1 x2 hR; rw [rl_Model_checkFun_111] at hR; rw [hG]; intro H locs hP hD hS ls hl
      refine lv_iload_n hx hb d_Model_checkFun_111 rfl (lv_at hl 2 rfl) ?_
      refine lv_iconst (v := 4) hx hb d_Model_checkFun_112 (by decide) ?_
      refine lv_icmp_ge (tgt := 195) hx hb d_Model_checkFun_113 (by decide) (fun c15 => ?_) (fun c15 => ?_)
      · replace hR := if_p c15 hR
        refine lv_aload_n hx hb d_Model_checkFun_195 rfl (lv_at hl 0 rfl) ?_
        refine lv_iconst (v := 0) hx hb d_Model_checkFun_196 (by decide) ?_
        refine wr_Model_563 hx hb hT hown hK hP hD hS d_Model_checkFun_197 (fun T16 eT H locs hP hD hS => ?_)
        replace hR := stK_e eT hR
        clear eT
        refine lv_aload_n hx hb d_Model_checkFun_200 rfl (lv_at hl 0 rfl) ?_
        refine lv_iconst (v := 0) hx hb d_Model_checkFun_201 (by decide) ?_
        refine wr_Model_624 hx hb hT hown hK hP hD hS d_Model_checkFun_202 (fun T17 eT H locs hP hD hS => ?_)
        replace hR := stK_e eT hR
        clear eT
        refine lv_aload_n hx hb d_Model_checkFun_205 rfl (lv_at hl 0 rfl) ?_
        refine lv_iconst (v := 0) hx hb d_Model_checkFun_206 (by decide) ?_
        refine wr_Model_627 hx hb hT hown hK hP hD hS d_Model_checkFun_207 (fun T18 eT H locs hP hD hS => ?_)
        replace hR := stK_e eT hR
        clear eT
        refine lv_aload_n hx hb d_Model_checkFun_210 rfl (lv_at hl 0 rfl) ?_
        refine lv_iconst (v := 1) hx hb d_Model_checkFun_211 (by decide) ?_
        refine wr_Model_630 hx hb hT hown hK hP hD hS (by decide) d_Model_checkFun_212 (fun T19 eT H locs hP hD hS => ?_)
        replace hR := stK_e eT hR
        clear eT
        refine lv_aload_n hx hb d_Model_checkFun_215 rfl (lv_at hl 0 rfl) ?_
        refine lv_iconst (v := 0) hx hb d_Model_checkFun_216 (by decide) ?_
        refine wr_Model_634 hx hb hT hown hK hP hD hS d_Model_checkFun_217 (fun T20 eT H locs hP hD hS => ?_)
        replace hR := stK_e eT hR
        clear eT
        refine lv_aload_n hx hb d_Model_checkFun_220 rfl (lv_at hl 0 rfl) ?_
        refine lv_iconst (v := 0) hx hb d_Model_checkFun_221 (by decide) ?_
        refine wr_Model_637 hx hb hT hown hK hP hD hS d_Model_checkFun_222 (fun T21 eT H locs hP hD hS => ?_)
        replace hR := stK_e eT hR
        clear eT
        refine lv_aload_n hx hb d_Model_checkFun_225 rfl (lv_at hl 0 rfl) ?_
        refine lv_iconst (v := 0) hx hb d_Model_checkFun_226 (by decide) ?_
        refine wr_Model_640 hx hb hT hown hK hP hD hS d_Model_checkFun_227 (fun T22 eT H locs hP hD hS => ?_)
        replace hR := stK_e eT hR
        clear eT
        refine lv_iconst (v := 0) hx hb d_Model_checkFun_230 (by decide) ?_
        refine lv_istore_n (lv' := [(2, .int (0 : Int32)), (0, .ref (ad 0)), (1, .int x1)]) hx hb d_Model_checkFun_231 rfl hl (by decide) rfl (fun ls hl => ?_)
        have g := lb_232 nf T22 x1 (0 : Int32) hR
        rw [hG] at g
        exact g _ _ hP hD hS _ (lv_sub hl [1, 2, 0] rfl)
      · replace hR := if_n c15 hR
        refine lv_iconst (v := 1) hx hb d_Model_checkFun_116 (by decide) ?_
        refine lv_istore_n (lv' := [(3, .int (1 : Int32)), (0, .ref (ad 0)), (1, .int x1), (2, .int x2)]) hx hb d_Model_checkFun_117 rfl hl (by decide) rfl (fun ls hl => ?_)
        have g := lb_118 (rl_Model_checkFun_111 F nf n) ih nf T x1 x2 (1 : Int32) hR
        rw [hG] at g
        exact g _ _ hP hD hS _ (lv_sub hl [1, 2, 3, 0] rfl)
  have lb_41 : ∀ (n : Nat) (T : gSt) (x1 : Int32) (x2 : Int32), rl_Model_checkFun_41 F nf n T x1 x2 = some (r0, rl0, T9) → G 41 [(0, .ref (ad 0)), (1, .int x1), (2, .int x2)] [] T := by
    intro n
    induction n with
    | zero => intro T x1 x2 hR; rw [rl_Model_checkFun_41] at hR; cases hR
    | succ n ih =>
      intro T x1 x2 hR; rw [rl_Model_checkFun_41] at hR; rw [hG]; intro H locs hP hD hS ls hl
      refine lv_iload_n hx hb d_Model_checkFun_41 rfl (lv_at hl 2 rfl) ?_
      refine lv_aload_n hx hb d_Model_checkFun_42 rfl (lv_at hl 0 rfl) ?_
      refine rd_Model_72 hx hb hT hown hK hP d_Model_checkFun_43 ?_
      refine lv_iload_n hx hb d_Model_checkFun_46 rfl (lv_at hl 1 rfl) ?_
      replace hR := gd_e hR
      obtain ⟨b7, hR⟩ := hR
      refine laM_19 hx hb hK hP b7 d_Model_checkFun_47 ?_
      refine lv_icmp_ge (tgt := 109) hx hb d_Model_checkFun_48 (by decide) (fun c8 => ?_) (fun c8 => ?_)
      · replace hR := if_p c8 hR
        refine lv_iconst (v := 1) hx hb d_Model_checkFun_109 (by decide) ?_
        refine lv_istore_n (lv' := [(2, .int (1 : Int32)), (0, .ref (ad 0)), (1, .int x1)]) hx hb d_Model_checkFun_110 rfl hl (by decide) rfl (fun ls hl => ?_)
        have g := lb_111 nf T x1 (1 : Int32) hR
        rw [hG] at g
        exact g _ _ hP hD hS _ (lv_sub hl [1, 2, 0] rfl)
      · replace hR := if_n c8 hR
        refine lv_aload_n hx hb d_Model_checkFun_51 rfl (lv_at hl 0 rfl) ?_
        refine lv_dup hx hb d_Model_checkFun_52 rfl ?_
        refine rd_Model_593 hx hb hT hown hK hP d_Model_checkFun_53 ?_
        refine lv_iconst (v := 1) hx hb d_Model_checkFun_56 (by decide) ?_
        refine lv_iconst (v := 4) hx hb d_Model_checkFun_57 (by decide) ?_
        refine lv_aload_n hx hb d_Model_checkFun_58 rfl (lv_at hl 0 rfl) ?_
        refine lv_iload_n hx hb d_Model_checkFun_59 rfl (lv_at hl 1 rfl) ?_
        refine lv_aload_n hx hb d_Model_checkFun_60 rfl (lv_at hl 0 rfl) ?_
        refine rd_Model_75 hx hb hT hown hK hP d_Model_checkFun_61 ?_
        refine lv_bipush (v := 6) hx hb d_Model_checkFun_64 (by decide) ?_
        refine lv_iload_n hx hb d_Model_checkFun_66 rfl (lv_at hl 1 rfl) ?_
        refine lv_imul hx hb d_Model_checkFun_67 ?_
        refine lv_iconst (v := 2) hx hb d_Model_checkFun_68 (by decide) ?_
        refine lv_iload_n hx hb d_Model_checkFun_69 rfl (lv_at hl 2 rfl) ?_
        refine lv_imul hx hb d_Model_checkFun_70 ?_
        refine lv_iadd hx hb d_Model_checkFun_71 ?_
        replace hR := gd_e hR
        obtain ⟨b9, hR⟩ := hR
        refine laM_20 hx hb hK hP b9 d_Model_checkFun_72 ?_
        replace hR := bi_e hR
        obtain ⟨r10, l10, T10, hc10, hR⟩ := hR
        refine gcV_i (rest := [.int (4 : Int32), .int (1 : Int32), .int (T.1 76 0), .ref (ad 0)]) ⟨hx, hb, hml, hown, hT⟩ (h_Model_regionOfItem _ _ _ _ _ _ hc10) (cwV 2 hT (gV ml_Model_616 im_Model_regionOfItem se_Model_regionOfItem ini_Model co_Model_regionOfItem) rfl rfl rfl pd_Model_regionOfItem ⟨rm_hi, rm_lo (Nat.le_of_ble_eq_true rfl)⟩) hK hP hD hS hA hnw henv (Nat.le_of_ble_eq_true rfl) rfl rfl hl.1 rfl (Nat.le_of_ble_eq_true rfl) d_Model_checkFun_73 ⟨Nat.le_refl _, Nat.le_refl _⟩ (fun H locs hP hD hS => ?_)
        clear hc10
        refine lv_imul hx hb d_Model_checkFun_76 ?_
        refine lv_aload_n hx hb d_Model_checkFun_77 rfl (lv_at hl 0 rfl) ?_
        refine lv_iload_n hx hb d_Model_checkFun_78 rfl (lv_at hl 1 rfl) ?_
        refine lv_aload_n hx hb d_Model_checkFun_79 rfl (lv_at hl 0 rfl) ?_
        refine rd_Model_75 hx hb hT hown hK hP d_Model_checkFun_80 ?_
        refine lv_bipush (v := 6) hx hb d_Model_checkFun_83 (by decide) ?_
        refine lv_iload_n hx hb d_Model_checkFun_85 rfl (lv_at hl 1 rfl) ?_
        refine lv_imul hx hb d_Model_checkFun_86 ?_
        refine lv_iconst (v := 2) hx hb d_Model_checkFun_87 (by decide) ?_
        refine lv_iload_n hx hb d_Model_checkFun_88 rfl (lv_at hl 2 rfl) ?_
        refine lv_imul hx hb d_Model_checkFun_89 ?_
        refine lv_iadd hx hb d_Model_checkFun_90 ?_
        refine lv_iconst (v := 1) hx hb d_Model_checkFun_91 (by decide) ?_
        refine lv_iadd hx hb d_Model_checkFun_92 ?_
        replace hR := gd_e hR
        obtain ⟨b11, hR⟩ := hR
        refine laM_20 hx hb hK hP b11 d_Model_checkFun_93 ?_
        replace hR := bi_e hR
        obtain ⟨r12, l12, T12, hc12, hR⟩ := hR
        refine gcV_i (rest := [.int ((4 : Int32) * r10), .int (1 : Int32), .int (T.1 76 0), .ref (ad 0)]) ⟨hx, hb, hml, hown, hT⟩ (h_Model_regionOfItem _ _ _ _ _ _ hc12) (cwV 2 hT (gV ml_Model_616 im_Model_regionOfItem se_Model_regionOfItem ini_Model co_Model_regionOfItem) rfl rfl rfl pd_Model_regionOfItem ⟨rm_hi, rm_lo (Nat.le_of_ble_eq_true rfl)⟩) hK hP hD hS hA hnw henv (Nat.le_of_ble_eq_true rfl) rfl rfl hl.1 rfl (Nat.le_of_ble_eq_true rfl) d_Model_checkFun_94 ⟨Nat.le_refl _, Nat.le_refl _⟩ (fun H locs hP hD hS => ?_)
        clear hc12
        refine lv_iadd hx hb d_Model_checkFun_97 ?_
        refine lv_ishl hx hb d_Model_checkFun_98 ?_
        refine lv_ior hx hb d_Model_checkFun_99 ?_
        refine wr_Model_593 hx hb hT hown hK hP hD hS d_Model_checkFun_100 (fun T13 eT H locs hP hD hS => ?_)
        replace hR := stK_e eT hR
        clear eT
        obtain ⟨z14, e14⟩ : ∃ y : Int32, y = x2 + (1 : Int32) := ⟨_, rfl⟩
        replace hR := vK_e e14 hR
        refine lv_iinc (v := z14) (lv' := [(2, .int z14), (0, .ref (ad 0)), (1, .int x1)]) hx hb d_Model_checkFun_103 hl (k := 2) rfl (by rw [e14]; rfl) (by decide) rfl (fun ls hl => ?_)
        refine lv_goto (tgt := 41) hx hb d_Model_checkFun_106 (by decide) ?_
        have g := ih T13 x1 z14 hR
        rw [hG] at g
        exact g _ _ hP hD hS _ (lv_sub hl [1, 2, 0] rfl)
  unfold rb_Model_checkFun at hR
  refine lv_aload_n hx hb d_Model_checkFun_0 rfl (lv_at hl 0 rfl) ?_
  refine lv_iload_n hx hb d_Model_checkFun_1 rfl (lv_at hl 1 rfl) ?_
  refine wr_Model_433 hx hb hT hown hK hP hD hS d_Model_checkFun_2 (fun T1 eT H locs hP hD hS => ?_)
  replace hR := stK_e eT hR
  clear eT
  refine lv_aload_n hx hb d_Model_checkFun_5 rfl (lv_at hl 0 rfl) ?_
  refine lv_iload_n hx hb d_Model_checkFun_6 rfl (lv_at hl 1 rfl) ?_
  replace hR := bi_e hR
  obtain ⟨r2, l2, T2, hc2, hR⟩ := hR
  refine gcV_v (rest := []) ⟨hx, hb, hml, hown, hT⟩ (h_Model_seeRegions _ _ _ _ _ hc2) (cwV 1 hT (gV ml_Model_609 im_Model_seeRegions se_Model_seeRegions ini_Model co_Model_seeRegions) rfl rfl rfl pd_Model_seeRegions ⟨rm_hi, rm_lo (Nat.le_of_ble_eq_true rfl)⟩) hK hP hD hS hA hnw henv (Nat.le_of_ble_eq_true rfl) rfl rfl hl.1 rfl (Nat.le_of_ble_eq_true rfl) d_Model_checkFun_7 ⟨Nat.le_refl _, Nat.le_refl _⟩ (fun H locs hP hD hS => ?_)
  clear hc2
  refine lv_aload_n hx hb d_Model_checkFun_10 rfl (lv_at hl 0 rfl) ?_
  refine lv_bipush (v := 15) hx hb d_Model_checkFun_11 (by decide) ?_
  refine lv_iconst (v := 3) hx hb d_Model_checkFun_13 (by decide) ?_
  refine lv_aload_n hx hb d_Model_checkFun_14 rfl (lv_at hl 0 rfl) ?_
  refine rd_Model_27 hx hb hT hown hK hP d_Model_checkFun_15 ?_
  refine lv_iload_n hx hb d_Model_checkFun_18 rfl (lv_at hl 1 rfl) ?_
  replace hR := gd_e hR
  obtain ⟨b3, hR⟩ := hR
  refine laM_4 hx hb hK hP b3 d_Model_checkFun_19 ?_
  refine lv_isub hx hb d_Model_checkFun_20 ?_
  refine lv_ishr hx hb d_Model_checkFun_21 ?_
  refine lv_aload_n hx hb d_Model_checkFun_22 rfl (lv_at hl 0 rfl) ?_
  refine rd_Model_69 hx hb hT hown hK hP d_Model_checkFun_23 ?_
  refine lv_iload_n hx hb d_Model_checkFun_26 rfl (lv_at hl 1 rfl) ?_
  replace hR := gd_e hR
  obtain ⟨b4, hR⟩ := hR
  refine laM_18 hx hb hK hP b4 d_Model_checkFun_27 ?_
  refine lv_iconst (v := (-1)) hx hb d_Model_checkFun_28 (by decide) ?_
  refine lv_ixor hx hb d_Model_checkFun_29 ?_
  refine lv_iand hx hb d_Model_checkFun_30 ?_
  refine wr_Model_575 hx hb hT hown hK hP hD hS d_Model_checkFun_31 (fun T5 eT H locs hP hD hS => ?_)
  replace hR := stK_e eT hR
  clear eT
  refine lv_aload_n hx hb d_Model_checkFun_34 rfl (lv_at hl 0 rfl) ?_
  refine lv_iconst (v := 0) hx hb d_Model_checkFun_35 (by decide) ?_
  refine wr_Model_593 hx hb hT hown hK hP hD hS d_Model_checkFun_36 (fun T6 eT H locs hP hD hS => ?_)
  replace hR := stK_e eT hR
  clear eT
  refine lv_iconst (v := 0) hx hb d_Model_checkFun_39 (by decide) ?_
  refine lv_istore_n (lv' := [(2, .int (0 : Int32)), (0, .ref (ad 0)), (1, .int p1)]) hx hb d_Model_checkFun_40 rfl hl (by decide) rfl (fun ls hl => ?_)
  have g := lb_41 nf T6 p1 (0 : Int32) hR
  rw [hG] at g
  exact g _ _ hP hD hS _ (lv_sub hl [1, 2, 0] rfl)
set_option maxHeartbeats 4000000 in
set_option maxRecDepth 100000 in
theorem sp_Model_see_JII (l : Launch) (dC : Nat → ClassId) (dI : Nat → Nat → Nat) (ea ev ad : Nat → Nat) (km : Nat → ClassId) (F : gF) (nf d : Nat) (T0 : gSt) (p1 : Int64) (p2 : Int32) (p3 : Int32) (r0 : Int32) (rl0 : Int64) (T9 : gSt) (hR : rb_Model_see_JII F nf T0 p1 p2 p3 = some (r0, rl0, T9)) : GMv l dC dI LM ad km ea ev y_Model_see_JII w_Model_see_JII (rmD (d + 1)) [.ref (ad 0), .long p1, .int p2, .int p3] T0 T9 := by
  intro sz
  refine Met.ofW (cc := b_Model_see_JII) (maxL := 5) (ret := none) (by decide) rfl ?_
  intro p e s m args below meth c s₁ B hml hv
  obtain ⟨rfl, hsz, hP, hK, hD0, hnw, henv⟩ := hv
  have hx := B.exec
  have hb := B.bytes
  have hr := B.returns
  have hT : ∀ w ∈ lw_good, w.before _ s = true := fun w h => atoms_spec (ws := w_Model_see_JII) B.pre w (List.mem_cons_of_mem _ h)
  have hown : s.vm.findClass R_Model = some m.cls := findClass_of_methodNamed B.named
  subst hsz
  have hD := hD0.self (sz := s.heap.size)
  clear hD0
  generalize hAe : va_A (gW LM ad km T0) s.heap.size = A at hD henv ⊢
  have hA : ∀ q : Nat, s.heap.size ≤ q → A q := fun q h => by rw [← hAe]; exact Or.inr h
  have hS : va_S A s.heap s.heap [] := va_S.rf
  have hl := lv_entry ([.ref (ad 0), .long p1, .int p2, .int p3]) (n := 5) (Nat.le_of_ble_eq_true rfl)
  rw [lg_entry_eq]
  generalize (lg_sl ([.ref (ad 0), .long p1, .int p2, .int p3]) ++ List.replicate (5 - (lg_sl ([.ref (ad 0), .long p1, .int p2, .int p3])).length) Slot.unset).toArray = ls at hl ⊢
  have hl : lv_has ls 5 [(0, .ref (ad 0)), (1, .long p1), (3, .int p2), (4, .int p3)] := hl
  unfold rb_Model_see_JII at hR
  refine lv_aload_n hx hb d_Model_see_JII_0 rfl (lv_at hl 0 rfl) ?_
  refine rd_Model_180 hx hb hT hown hK hP d_Model_see_JII_1 ?_
  refine lv_aload_n hx hb d_Model_see_JII_4 rfl (lv_at hl 0 rfl) ?_
  refine rd_Model_563 hx hb hT hown hK hP d_Model_see_JII_5 ?_
  refine lv_lload_n hx hb d_Model_see_JII_8 rfl (lv_at hl 1 rfl) ?_
  replace hR := gd_e hR
  obtain ⟨b1, hR⟩ := hR
  refine saM_55 hx hb hK hP hD hS b1 d_Model_see_JII_9 (fun T1 eT H locs hP hD hS => ?_)
  replace hR := stK_e eT hR
  clear eT
  refine lv_aload_n hx hb d_Model_see_JII_10 rfl (lv_at hl 0 rfl) ?_
  refine rd_Model_183 hx hb hT hown hK hP d_Model_see_JII_11 ?_
  refine lv_aload_n hx hb d_Model_see_JII_14 rfl (lv_at hl 0 rfl) ?_
  refine rd_Model_563 hx hb hT hown hK hP d_Model_see_JII_15 ?_
  refine lv_iload_n hx hb d_Model_see_JII_18 rfl (lv_at hl 2 rfl) ?_
  replace hR := gd_e hR
  obtain ⟨b2, hR⟩ := hR
  refine saM_56 hx hb hK hP hD hS b2 d_Model_see_JII_19 (fun T2 eT H locs hP hD hS => ?_)
  replace hR := stK_e eT hR
  clear eT
  refine lv_aload_n hx hb d_Model_see_JII_20 rfl (lv_at hl 0 rfl) ?_
  refine rd_Model_186 hx hb hT hown hK hP d_Model_see_JII_21 ?_
  refine lv_aload_n hx hb d_Model_see_JII_24 rfl (lv_at hl 0 rfl) ?_
  refine rd_Model_563 hx hb hT hown hK hP d_Model_see_JII_25 ?_
  refine lv_iload hx hb d_Model_see_JII_28 (lv_at hl 3 rfl) ?_
  replace hR := gd_e hR
  obtain ⟨b3, hR⟩ := hR
  refine saM_57 hx hb hK hP hD hS b3 d_Model_see_JII_30 (fun T3 eT H locs hP hD hS => ?_)
  replace hR := stK_e eT hR
  clear eT
  refine lv_aload_n hx hb d_Model_see_JII_31 rfl (lv_at hl 0 rfl) ?_
  refine lv_dup hx hb d_Model_see_JII_32 rfl ?_
  refine rd_Model_563 hx hb hT hown hK hP d_Model_see_JII_33 ?_
  refine lv_iconst (v := 1) hx hb d_Model_see_JII_36 (by decide) ?_
  refine lv_iadd hx hb d_Model_see_JII_37 ?_
  refine wr_Model_563 hx hb hT hown hK hP hD hS d_Model_see_JII_38 (fun T4 eT H locs hP hD hS => ?_)
  replace hR := stK_e eT hR
  clear eT
  obtain ⟨-, -, e3⟩ := re_e hR
  subst e3
  exact W.vret hx hb hr (fun t ht hW => ⟨⟨(), rfl, trivial, by rw [ht]; exact hP, va_K.moved hW.alike hK, hD⟩, hS.F ht⟩) hS.2.2 d_Model_see_JII_41
set_option maxHeartbeats 4000000 in
set_option maxRecDepth 100000 in
theorem sp_Model_stop (l : Launch) (dC : Nat → ClassId) (dI : Nat → Nat → Nat) (ea ev ad : Nat → Nat) (km : Nat → ClassId) (F : gF) (nf d : Nat) (T0 : gSt) (r0 : Int32) (rl0 : Int64) (T9 : gSt) (hR : rb_Model_stop F nf T0 = some (r0, rl0, T9)) : GMv l dC dI LM ad km ea ev y_Model_stop w_Model_stop (rmD (d + 1)) [.ref (ad 0)] T0 T9 := by
  intro sz
  refine Met.ofW (cc := b_Model_stop) (maxL := 1) (ret := none) (by decide) rfl ?_
  intro p e s m args below meth c s₁ B hml hv
  obtain ⟨rfl, hsz, hP, hK, hD0, hnw, henv⟩ := hv
  have hx := B.exec
  have hb := B.bytes
  have hr := B.returns
  have hT : ∀ w ∈ lw_good, w.before _ s = true := fun w h => atoms_spec (ws := w_Model_stop) B.pre w (List.mem_cons_of_mem _ h)
  have hown : s.vm.findClass R_Model = some m.cls := findClass_of_methodNamed B.named
  subst hsz
  have hD := hD0.self (sz := s.heap.size)
  clear hD0
  generalize hAe : va_A (gW LM ad km T0) s.heap.size = A at hD henv ⊢
  have hA : ∀ q : Nat, s.heap.size ≤ q → A q := fun q h => by rw [← hAe]; exact Or.inr h
  have hS : va_S A s.heap s.heap [] := va_S.rf
  have hl := lv_entry ([.ref (ad 0)]) (n := 1) (Nat.le_of_ble_eq_true rfl)
  rw [lg_entry_eq]
  generalize (lg_sl ([.ref (ad 0)]) ++ List.replicate (1 - (lg_sl ([.ref (ad 0)])).length) Slot.unset).toArray = ls at hl ⊢
  have hl : lv_has ls 1 [(0, .ref (ad 0))] := hl
  unfold rb_Model_stop at hR
  refine lv_aload_n hx hb d_Model_stop_0 rfl (lv_at hl 0 rfl) ?_
  refine lv_iconst (v := 0) hx hb d_Model_stop_1 (by decide) ?_
  refine wr_Model_630 hx hb hT hown hK hP hD hS (by decide) d_Model_stop_2 (fun T1 eT H locs hP hD hS => ?_)
  replace hR := stK_e eT hR
  clear eT
  refine lv_aload_n hx hb d_Model_stop_5 rfl (lv_at hl 0 rfl) ?_
  refine lv_iconst (v := (-1)) hx hb d_Model_stop_6 (by decide) ?_
  refine wr_Model_624 hx hb hT hown hK hP hD hS d_Model_stop_7 (fun T2 eT H locs hP hD hS => ?_)
  replace hR := stK_e eT hR
  clear eT
  refine lv_aload_n hx hb d_Model_stop_10 rfl (lv_at hl 0 rfl) ?_
  refine lv_iconst (v := (-1)) hx hb d_Model_stop_11 (by decide) ?_
  refine wr_Model_627 hx hb hT hown hK hP hD hS d_Model_stop_12 (fun T3 eT H locs hP hD hS => ?_)
  replace hR := stK_e eT hR
  clear eT
  obtain ⟨-, -, e3⟩ := re_e hR
  subst e3
  exact W.vret hx hb hr (fun t ht hW => ⟨⟨(), rfl, trivial, by rw [ht]; exact hP, va_K.moved hW.alike hK, hD⟩, hS.F ht⟩) hS.2.2 d_Model_stop_15
set_option maxHeartbeats 4000000 in
set_option maxRecDepth 100000 in
theorem sp_Model_checkBlock (l : Launch) (dC : Nat → ClassId) (dI : Nat → Nat → Nat) (ea ev ad : Nat → Nat) (km : Nat → ClassId) (F : gF) (nf d : Nat) (h_Model_bad : mt_Model_bad l dC dI ea ev ad km F d) (h_Model_checkStep : mt_Model_checkStep l dC dI ea ev ad km F d) (T0 : gSt) (p1 : Int32) (r0 : Int32) (rl0 : Int64) (T9 : gSt) (hR : rb_Model_checkBlock F nf T0 p1 = some (r0, rl0, T9)) : GMv l dC dI LM ad km ea ev y_Model_checkBlock w_Model_checkBlock (rmD (d + 1)) [.ref (ad 0), .int p1] T0 T9 := by
  intro sz
  refine Met.ofW (cc := b_Model_checkBlock) (maxL := 4) (ret := none) (by decide) rfl ?_
  intro p e s m args below meth c s₁ B hml hv
  obtain ⟨rfl, hsz, hP, hK, hD0, hnw, henv⟩ := hv
  have hx := B.exec
  have hb := B.bytes
  have hr := B.returns
  have hT : ∀ w ∈ lw_good, w.before _ s = true := fun w h => atoms_spec (ws := w_Model_checkBlock) B.pre w (List.mem_cons_of_mem _ h)
  have hown : s.vm.findClass R_Model = some m.cls := findClass_of_methodNamed B.named
  subst hsz
  have hD := hD0.self (sz := s.heap.size)
  clear hD0
  generalize hAe : va_A (gW LM ad km T0) s.heap.size = A at hD henv ⊢
  have hA : ∀ q : Nat, s.heap.size ≤ q → A q := fun q h => by rw [← hAe]; exact Or.inr h
  have hS : va_S A s.heap s.heap [] := va_S.rf
  have hl := lv_entry ([.ref (ad 0), .int p1]) (n := 4) (Nat.le_of_ble_eq_true rfl)
  rw [lg_entry_eq]
  generalize (lg_sl ([.ref (ad 0), .int p1]) ++ List.replicate (4 - (lg_sl ([.ref (ad 0), .int p1])).length) Slot.unset).toArray = ls at hl ⊢
  have hl : lv_has ls 4 [(0, .ref (ad 0)), (1, .int p1)] := hl
  obtain ⟨G, hG⟩ : ∃ G : Nat → List (Nat × Value) → List Value → gSt → Prop, G = (fun pc lv stk T => ∀ (H : Heap) (locs : List Loc), va_P (dC, dI) cls_all (gW LM ad km T) H → va_D A (gW LM ad km T) → va_S A s.heap H locs → ∀ (ls : Array Slot), lv_has ls 4 lv → W p l e (headSpec w_Model_checkBlock (rmD (d + 1))).room s m ([.ref (ad 0), .int p1] : List Value).toArray below meth c H locs 0 0 (MQ below (va_Qv (fun (_ : Unit) => True) (fun _ t => gPost dC dI LM ad km T9 A t) A) ([.ref (ad 0), .int p1] : List Value).toArray s 0 0 A) (F0 m pc ls stk)) := ⟨_, rfl⟩
  have lb_12 : ∀ (n : Nat) (T : gSt) (x2 : Int32) (x3 : Int32), rl_Model_checkBlock_12 F nf n T x2 x3 = some (r0, rl0, T9) → G 12 [(0, .ref (ad 0)), (2, .int x2), (3, .int x3)] [] T := by
    intro n
    induction n with
    | zero => intro T x2 x3 hR; rw [rl_Model_checkBlock_12] at hR; cases hR
    | succ n ih =>
      intro T x2 x3 hR; rw [rl_Model_checkBlock_12] at hR; rw [hG]; intro H locs hP hD hS ls hl
      refine lv_iload_n hx hb d_Model_checkBlock_12 rfl (lv_at hl 2 rfl) ?_
      refine lv_if_lt (tgt := 38) hx hb d_Model_checkBlock_13 (by decide) (fun c4 => ?_) (fun c4 => ?_)
      · replace hR := if_p c4 hR
        refine lv_aload_n hx hb d_Model_checkBlock_38 rfl (lv_at hl 0 rfl) ?_
        refine lv_iload_n hx hb d_Model_checkBlock_39 rfl (lv_at hl 1 rfl) ?_
        refine wr_Model_563 hx hb hT hown hK hP hD hS d_Model_checkBlock_40 (fun T5 eT H locs hP hD hS => ?_)
        replace hR := stK_e eT hR
        clear eT
        obtain ⟨-, -, e3⟩ := re_e hR
        subst e3
        exact W.vret hx hb hr (fun t ht hW => ⟨⟨(), rfl, trivial, by rw [ht]; exact hP, va_K.moved hW.alike hK, hD⟩, hS.F ht⟩) hS.2.2 d_Model_checkBlock_43
      · replace hR := if_n c4 hR
        refine lv_aload_n hx hb d_Model_checkBlock_16 rfl (lv_at hl 0 rfl) ?_
        replace hR := bi_e hR
        obtain ⟨r6, l6, T6, hc6, hR⟩ := hR
        refine gcV_i (rest := []) ⟨hx, hb, hml, hown, hT⟩ (h_Model_bad _ _ _ _ hc6) (cwV 0 hT (gV ml_Model_385 im_Model_bad se_Model_bad ini_Model co_Model_bad) rfl rfl rfl pd_Model_bad ⟨rm_hi, rm_lo (Nat.le_of_ble_eq_true rfl)⟩) hK hP hD hS hA hnw henv (Nat.le_of_ble_eq_true rfl) rfl rfl hl.1 rfl (Nat.le_of_ble_eq_true rfl) d_Model_checkBlock_17 ⟨Nat.le_refl _, Nat.le_refl _⟩ (fun H locs hP hD hS => ?_)
        clear hc6
        refine lv_if_ne (tgt := 38) hx hb d_Model_checkBlock_20 (by decide) (fun c7 => ?_) (fun c7 => ?_)
        · replace hR := if_n c7 hR
          refine lv_aload_n hx hb d_Model_checkBlock_38 rfl (lv_at hl 0 rfl) ?_
          refine lv_iload_n hx hb d_Model_checkBlock_39 rfl (lv_at hl 1 rfl) ?_
          refine wr_Model_563 hx hb hT hown hK hP hD hS d_Model_checkBlock_40 (fun T8 eT H locs hP hD hS => ?_)
          replace hR := stK_e eT hR
          clear eT
          obtain ⟨-, -, e3⟩ := re_e hR
          subst e3
          exact W.vret hx hb hr (fun t ht hW => ⟨⟨(), rfl, trivial, by rw [ht]; exact hP, va_K.moved hW.alike hK, hD⟩, hS.F ht⟩) hS.2.2 d_Model_checkBlock_43
        · replace hR := if_p c7 hR
          refine lv_aload_n hx hb d_Model_checkBlock_23 rfl (lv_at hl 0 rfl) ?_
          refine lv_iload_n hx hb d_Model_checkBlock_24 rfl (lv_at hl 2 rfl) ?_
          replace hR := bi_e hR
          obtain ⟨r9, l9, T9, hc9, hR⟩ := hR
          refine gcV_v (rest := []) ⟨hx, hb, hml, hown, hT⟩ (h_Model_checkStep _ _ _ _ _ hc9) (cwV 1 hT (gV ml_Model_649 im_Model_checkStep se_Model_checkStep ini_Model co_Model_checkStep) rfl rfl rfl pd_Model_checkStep ⟨rm_hi, rm_lo (Nat.le_of_ble_eq_true rfl)⟩) hK hP hD hS hA hnw henv (Nat.le_of_ble_eq_true rfl) rfl rfl hl.1 rfl (Nat.le_of_ble_eq_true rfl) d_Model_checkBlock_25 ⟨Nat.le_refl _, Nat.le_refl _⟩ (fun H locs hP hD hS => ?_)
          clear hc9
          refine lv_aload_n hx hb d_Model_checkBlock_28 rfl (lv_at hl 0 rfl) ?_
          refine rd_Model_135 hx hb hT hown hK hP d_Model_checkBlock_29 ?_
          refine lv_iload_n hx hb d_Model_checkBlock_32 rfl (lv_at hl 2 rfl) ?_
          replace hR := gd_e hR
          obtain ⟨b10, hR⟩ := hR
          refine laM_40 hx hb hK hP b10 d_Model_checkBlock_33 ?_
          refine lv_topi (fun z11 e11 => ?_)
          replace hR := vK_e e11 hR
          refine lv_istore_n (lv' := [(3, .int z11), (0, .ref (ad 0)), (2, .int x2)]) hx hb d_Model_checkBlock_34 rfl hl (by decide) rfl (fun ls hl => ?_)
          refine lv_goto (tgt := 12) hx hb d_Model_checkBlock_35 (by decide) ?_
          have g := ih T9 x2 z11 hR
          rw [hG] at g
          exact g _ _ hP hD hS _ (lv_sub hl [1, 2, 0] rfl)
  unfold rb_Model_checkBlock at hR
  refine lv_aload_n hx hb d_Model_checkBlock_0 rfl (lv_at hl 0 rfl) ?_
  refine rd_Model_563 hx hb hT hown hK hP d_Model_checkBlock_1 ?_
  refine lv_topi (fun z1 e1 => ?_)
  replace hR := vK_e e1 hR
  refine lv_istore_n (lv' := [(2, .int z1), (0, .ref (ad 0)), (1, .int p1)]) hx hb d_Model_checkBlock_4 rfl hl (by decide) rfl (fun ls hl => ?_)
  refine lv_aload_n hx hb d_Model_checkBlock_5 rfl (lv_at hl 1 rfl) ?_
  refine rd_Model_126 hx hb hT hown hK hP d_Model_checkBlock_6 ?_
  refine lv_iload_n hx hb d_Model_checkBlock_9 rfl (lv_at hl 2 rfl) ?_
  replace hR := gd_e hR
  obtain ⟨b2, hR⟩ := hR
  refine laM_37 hx hb hK hP b2 d_Model_checkBlock_10 ?_
  refine lv_topi (fun z3 e3 => ?_)
  replace hR := vK_e e3 hR
  refine lv_istore_n (lv' := [(3, .int z3), (2, .int z1), (0, .ref (ad 0)), (1, .int p1)]) hx hb d_Model_checkBlock_11 rfl hl (by decide) rfl (fun ls hl => ?_)
  have g := lb_12 nf T0 z1 z3 hR
  rw [hG] at g
  exact g _ _ hP hD hS _ (lv_sub hl [2, 1, 0] rfl)
set_option maxHeartbeats 4000000 in
set_option maxRecDepth 100000 in
theorem sp_Model_needInt (l : Launch) (dC : Nat → ClassId) (dI : Nat → Nat → Nat) (ea ev ad : Nat → Nat) (km : Nat → ClassId) (F : gF) (nf d : Nat) (h_Model_check : mt_Model_check l dC dI ea ev ad km F d) (h_Model_bad : mt_Model_bad l dC dI ea ev ad km F d) (h_Model_fail : mt_Model_fail l dC dI ea ev ad km F d) (T0 : gSt) (p1 : Int32) (r0 : Int32) (rl0 : Int64) (T9 : gSt) (hR : rb_Model_needInt F nf T0 p1 = some (r0, rl0, T9)) : GMv l dC dI LM ad km ea ev y_Model_needInt w_Model_needInt (rmD (d + 1)) [.ref (ad 0), .int p1] T0 T9 := by
  intro sz
  refine Met.ofW (cc := b_Model_needInt) (maxL := 3) (ret := none) (by decide) rfl ?_
  intro p e s m args below meth c s₁ B hml hv
  obtain ⟨rfl, hsz, hP, hK, hD0, hnw, henv⟩ := hv
  have hx := B.exec
  have hb := B.bytes
  have hr := B.returns
  have hT : ∀ w ∈ lw_good, w.before _ s = true := fun w h => atoms_spec (ws := w_Model_needInt) B.pre w (List.mem_cons_of_mem _ h)
  have hown : s.vm.findClass R_Model = some m.cls := findClass_of_methodNamed B.named
  subst hsz
  have hD := hD0.self (sz := s.heap.size)
  clear hD0
  generalize hAe : va_A (gW LM ad km T0) s.heap.size = A at hD henv ⊢
  have hA : ∀ q : Nat, s.heap.size ≤ q → A q := fun q h => by rw [← hAe]; exact Or.inr h
  have hS : va_S A s.heap s.heap [] := va_S.rf
  have hl := lv_entry ([.ref (ad 0), .int p1]) (n := 3) (Nat.le_of_ble_eq_true rfl)
  rw [lg_entry_eq]
  generalize (lg_sl ([.ref (ad 0), .int p1]) ++ List.replicate (3 - (lg_sl ([.ref (ad 0), .int p1])).length) Slot.unset).toArray = ls at hl ⊢
  have hl : lv_has ls 3 [(0, .ref (ad 0)), (1, .int p1)] := hl
  unfold rb_Model_needInt at hR
  refine lv_aload_n hx hb d_Model_needInt_0 rfl (lv_at hl 0 rfl) ?_
  refine lv_iload_n hx hb d_Model_needInt_1 rfl (lv_at hl 1 rfl) ?_
  replace hR := bi_e hR
  obtain ⟨r1, l1, T1, hc1, hR⟩ := hR
  refine gcV_i (rest := []) ⟨hx, hb, hml, hown, hT⟩ (h_Model_check _ _ _ _ _ hc1) (cwV 1 hT (gV ml_Model_652 im_Model_check se_Model_check ini_Model co_Model_check) rfl rfl rfl pd_Model_check ⟨rm_hi, rm_lo (Nat.le_of_ble_eq_true rfl)⟩) hK hP hD hS hA hnw henv (Nat.le_of_ble_eq_true rfl) rfl rfl hl.1 rfl (Nat.le_of_ble_eq_true rfl) d_Model_needInt_2 ⟨Nat.le_refl _, Nat.le_refl _⟩ (fun H locs hP hD hS => ?_)
  clear hc1
  refine lv_istore_n (lv' := [(2, .int r1), (0, .ref (ad 0)), (1, .int p1)]) hx hb d_Model_needInt_5 rfl hl (by decide) rfl (fun ls hl => ?_)
  refine lv_aload_n hx hb d_Model_needInt_6 rfl (lv_at hl 1 rfl) ?_
  replace hR := bi_e hR
  obtain ⟨r2, l2, T2, hc2, hR⟩ := hR
  refine gcV_i (rest := []) ⟨hx, hb, hml, hown, hT⟩ (h_Model_bad _ _ _ _ hc2) (cwV 0 hT (gV ml_Model_385 im_Model_bad se_Model_bad ini_Model co_Model_bad) rfl rfl rfl pd_Model_bad ⟨rm_hi, rm_lo (Nat.le_of_ble_eq_true rfl)⟩) hK hP hD hS hA hnw henv (Nat.le_of_ble_eq_true rfl) rfl rfl hl.1 rfl (Nat.le_of_ble_eq_true rfl) d_Model_needInt_7 ⟨Nat.le_refl _, Nat.le_refl _⟩ (fun H locs hP hD hS => ?_)
  clear hc2
  refine lv_if_ne (tgt := 28) hx hb d_Model_needInt_10 (by decide) (fun c3 => ?_) (fun c3 => ?_)
  · replace hR := if_n c3 hR
    obtain ⟨-, -, e3⟩ := re_e hR
    subst e3
    exact W.vret hx hb hr (fun t ht hW => ⟨⟨(), rfl, trivial, by rw [ht]; exact hP, va_K.moved hW.alike hK, hD⟩, hS.F ht⟩) hS.2.2 d_Model_needInt_28
  · replace hR := if_p c3 hR
    refine lv_iload_n hx hb d_Model_needInt_13 rfl (lv_at hl 0 rfl) ?_
    refine lv_if_eq (tgt := 28) hx hb d_Model_needInt_14 (by decide) (fun c4 => ?_) (fun c4 => ?_)
    · replace hR := if_p c4 hR
      obtain ⟨-, -, e3⟩ := re_e hR
      subst e3
      exact W.vret hx hb hr (fun t ht hW => ⟨⟨(), rfl, trivial, by rw [ht]; exact hP, va_K.moved hW.alike hK, hD⟩, hS.F ht⟩) hS.2.2 d_Model_needInt_28
    · replace hR := if_n c4 hR
      refine lv_aload_n hx hb d_Model_needInt_17 rfl (lv_at hl 1 rfl) ?_
      refine lv_iconst (v := 4) hx hb d_Model_needInt_18 (by decide) ?_
      refine lv_aload_n hx hb d_Model_needInt_19 rfl (lv_at hl 1 rfl) ?_
      refine rd_Model_123 hx hb hT hown hK hP d_Model_needInt_20 ?_
      refine lv_iload_n hx hb d_Model_needInt_23 rfl (lv_at hl 2 rfl) ?_
      replace hR := gd_e hR
      obtain ⟨b5, hR⟩ := hR
      refine laM_36 hx hb hK hP b5 d_Model_needInt_24 ?_
      replace hR := bi_e hR
      obtain ⟨r6, l6, T6, hc6, hR⟩ := hR
      refine gcV_v (rest := []) ⟨hx, hb, hml, hown, hT⟩ (h_Model_fail _ _ _ _ _ _ hc6) (cwV 2 hT (gV ml_Model_381 im_Model_fail se_Model_fail ini_Model co_Model_fail) rfl rfl rfl pd_Model_fail ⟨rm_hi, rm_lo (Nat.le_of_ble_eq_true rfl)⟩) hK hP hD hS hA hnw henv (Nat.le_of_ble_eq_true rfl) rfl rfl hl.1 rfl (Nat.le_of_ble_eq_true rfl) d_Model_needInt_25 ⟨Nat.le_refl _, Nat.le_refl _⟩ (fun H locs hP hD hS => ?_)
      clear hc6
      obtain ⟨-, -, e3⟩ := re_e hR
      subst e3
      exact W.vret hx hb hr (fun t ht hW => ⟨⟨(), rfl, trivial, by rw [ht]; exact hP, va_K.moved hW.alike hK, hD⟩, hS.F ht⟩) hS.2.2 d_Model_needInt_28
set_option maxHeartbeats 4000000 in
set_option maxRecDepth 100000 in
theorem sp_Model_checkStep (l : Launch) (dC : Nat → ClassId) (dI : Nat → Nat → Nat) (ea ev ad : Nat → Nat) (km : Nat → ClassId) (F : gF) (nf d : Nat) (h_Model_checkVar : mt_Model_checkVar l dC dI ea ev ad km F d) (h_Model_checkIf : mt_Model_checkIf l dC dI ea ev ad km F d) (h_Model_checkWhile : mt_Model_checkWhile l dC dI ea ev ad km F d) (h_Model_checkReturn : mt_Model_checkReturn l dC dI ea ev ad km F d) (h_Model_needInt : mt_Model_needInt l dC dI ea ev ad km F d) (h_Model_stop : mt_Model_stop l dC dI ea ev ad km F d) (h_Model_checkRegion : mt_Model_checkRegion l dC dI ea ev ad km F d) (h_Model_checkClose : mt_Model_checkClose l dC dI ea ev ad km F d) (h_Model_checkTry : mt_Model_checkTry l dC dI ea ev ad km F d) (h_Model_checkSet : mt_Model_checkSet l dC dI ea ev ad km F d) (h_Model_check : mt_Model_check l dC dI ea ev ad km F d) (T0 : gSt) (p1 : Int32) (r0 : Int32) (rl0 : Int64) (T9 : gSt) (hR : rb_Model_checkStep F nf T0 p1 = some (r0, rl0, T9)) : GMv l dC dI LM ad km ea ev y_Model_checkStep w_Model_checkStep (rmD (d + 1)) [.ref (ad 0), .int p1] T0 T9 := by
  intro sz
  refine Met.ofW (cc := b_Model_checkStep) (maxL := 2) (ret := none) (by decide) rfl ?_
  intro p e s m args below meth c s₁ B hml hv
  obtain ⟨rfl, hsz, hP, hK, hD0, hnw, henv⟩ := hv
  have hx := B.exec
  have hb := B.bytes
  have hr := B.returns
  have hT : ∀ w ∈ lw_good, w.before _ s = true := fun w h => atoms_spec (ws := w_Model_checkStep) B.pre w (List.mem_cons_of_mem _ h)
  have hown : s.vm.findClass R_Model = some m.cls := findClass_of_methodNamed B.named
  subst hsz
  have hD := hD0.self (sz := s.heap.size)
  clear hD0
  generalize hAe : va_A (gW LM ad km T0) s.heap.size = A at hD henv ⊢
  have hA : ∀ q : Nat, s.heap.size ≤ q → A q := fun q h => by rw [← hAe]; exact Or.inr h
  have hS : va_S A s.heap s.heap [] := va_S.rf
  have hl := lv_entry ([.ref (ad 0), .int p1]) (n := 2) (Nat.le_of_ble_eq_true rfl)
  rw [lg_entry_eq]
  generalize (lg_sl ([.ref (ad 0), .int p1]) ++ List.replicate (2 - (lg_sl ([.ref (ad 0), .int p1])).length) Slot.unset).toArray = ls at hl ⊢
  have hl : lv_has ls 2 [(0, .ref (ad 0)), (1, .int p1)] := hl
  unfold rb_Model_checkStep at hR
  refine lv_aload_n hx hb d_Model_checkStep_0 rfl (lv_at hl 0 rfl) ?_
  refine rd_Model_120 hx hb hT hown hK hP d_Model_checkStep_1 ?_
  refine lv_iload_n hx hb d_Model_checkStep_4 rfl (lv_at hl 1 rfl) ?_
  replace hR := gd_e hR
  obtain ⟨b1, hR⟩ := hR
  refine laM_35 hx hb hK hP b1 d_Model_checkStep_5 ?_
  by_cases c2 : T0.1 50 p1.toNatClampNeg = (20 : Int32)
  · replace hR := if_p c2 hR
    refine lv_tableIn (off := 54) (tgt := 60) hx hb d_Model_checkStep_6 (by rw [c2]; decide) (by rw [c2]; decide) (by rw [c2]; decide) (by decide) ?_
    refine lv_aload_n hx hb d_Model_checkStep_60 rfl (lv_at hl 0 rfl) ?_
    refine lv_iload_n hx hb d_Model_checkStep_61 rfl (lv_at hl 1 rfl) ?_
    replace hR := bi_e hR
    obtain ⟨r3, l3, T3, hc3, hR⟩ := hR
    refine gcV_v (rest := []) ⟨hx, hb, hml, hown, hT⟩ (h_Model_checkVar _ _ _ _ _ hc3) (cwV 1 hT (gV ml_Model_655 im_Model_checkVar se_Model_checkVar ini_Model co_Model_checkVar) rfl rfl rfl pd_Model_checkVar ⟨rm_hi, rm_lo (Nat.le_of_ble_eq_true rfl)⟩) hK hP hD hS hA hnw henv (Nat.le_of_ble_eq_true rfl) rfl rfl hl.1 rfl (Nat.le_of_ble_eq_true rfl) d_Model_checkStep_62 ⟨Nat.le_refl _, Nat.le_refl _⟩ (fun H locs hP hD hS => ?_)
    clear hc3
    refine lv_goto (tgt := 170) hx hb d_Model_checkStep_65 (by decide) ?_
    obtain ⟨-, -, e3⟩ := re_e hR
    subst e3
    exact W.vret hx hb hr (fun t ht hW => ⟨⟨(), rfl, trivial, by rw [ht]; exact hP, va_K.moved hW.alike hK, hD⟩, hS.F ht⟩) hS.2.2 d_Model_checkStep_170
  replace hR := if_n c2 hR
  by_cases c4 : T0.1 50 p1.toNatClampNeg = (21 : Int32)
  · replace hR := if_p c4 hR
    refine lv_tableIn (off := 62) (tgt := 68) hx hb d_Model_checkStep_6 (by rw [c4]; decide) (by rw [c4]; decide) (by rw [c4]; decide) (by decide) ?_
    refine lv_aload_n hx hb d_Model_checkStep_68 rfl (lv_at hl 0 rfl) ?_
    refine lv_iload_n hx hb d_Model_checkStep_69 rfl (lv_at hl 1 rfl) ?_
    replace hR := bi_e hR
    obtain ⟨r5, l5, T5, hc5, hR⟩ := hR
    refine gcV_v (rest := []) ⟨hx, hb, hml, hown, hT⟩ (h_Model_checkIf _ _ _ _ _ hc5) (cwV 1 hT (gV ml_Model_658 im_Model_checkIf se_Model_checkIf ini_Model co_Model_checkIf) rfl rfl rfl pd_Model_checkIf ⟨rm_hi, rm_lo (Nat.le_of_ble_eq_true rfl)⟩) hK hP hD hS hA hnw henv (Nat.le_of_ble_eq_true rfl) rfl rfl hl.1 rfl (Nat.le_of_ble_eq_true rfl) d_Model_checkStep_70 ⟨Nat.le_refl _, Nat.le_refl _⟩ (fun H locs hP hD hS => ?_)
    clear hc5
    refine lv_goto (tgt := 170) hx hb d_Model_checkStep_73 (by decide) ?_
    obtain ⟨-, -, e3⟩ := re_e hR
    subst e3
    exact W.vret hx hb hr (fun t ht hW => ⟨⟨(), rfl, trivial, by rw [ht]; exact hP, va_K.moved hW.alike hK, hD⟩, hS.F ht⟩) hS.2.2 d_Model_checkStep_170
  replace hR := if_n c4 hR
  by_cases c6 : T0.1 50 p1.toNatClampNeg = (22 : Int32)
  · replace hR := if_p c6 hR
    refine lv_tableIn (off := 70) (tgt := 76) hx hb d_Model_checkStep_6 (by rw [c6]; decide) (by rw [c6]; decide) (by rw [c6]; decide) (by decide) ?_
    refine lv_aload_n hx hb d_Model_checkStep_76 rfl (lv_at hl 0 rfl) ?_
    refine lv_iload_n hx hb d_Model_checkStep_77 rfl (lv_at hl 1 rfl) ?_
    replace hR := bi_e hR
    obtain ⟨r7, l7, T7, hc7, hR⟩ := hR
    refine gcV_v (rest := []) ⟨hx, hb, hml, hown, hT⟩ (h_Model_checkWhile _ _ _ _ _ hc7) (cwV 1 hT (gV ml_Model_661 im_Model_checkWhile se_Model_checkWhile ini_Model co_Model_checkWhile) rfl rfl rfl pd_Model_checkWhile ⟨rm_hi, rm_lo (Nat.le_of_ble_eq_true rfl)⟩) hK hP hD hS hA hnw henv (Nat.le_of_ble_eq_true rfl) rfl rfl hl.1 rfl (Nat.le_of_ble_eq_true rfl) d_Model_checkStep_78 ⟨Nat.le_refl _, Nat.le_refl _⟩ (fun H locs hP hD hS => ?_)
    clear hc7
    refine lv_goto (tgt := 170) hx hb d_Model_checkStep_81 (by decide) ?_
    obtain ⟨-, -, e3⟩ := re_e hR
    subst e3
    exact W.vret hx hb hr (fun t ht hW => ⟨⟨(), rfl, trivial, by rw [ht]; exact hP, va_K.moved hW.alike hK, hD⟩, hS.F ht⟩) hS.2.2 d_Model_checkStep_170
  replace hR := if_n c6 hR
  by_cases c8 : T0.1 50 p1.toNatClampNeg = (23 : Int32)
  · replace hR := if_p c8 hR
    refine lv_tableIn (off := 78) (tgt := 84) hx hb d_Model_checkStep_6 (by rw [c8]; decide) (by rw [c8]; decide) (by rw [c8]; decide) (by decide) ?_
    refine lv_aload_n hx hb d_Model_checkStep_84 rfl (lv_at hl 0 rfl) ?_
    refine lv_iload_n hx hb d_Model_checkStep_85 rfl (lv_at hl 1 rfl) ?_
    replace hR := bi_e hR
    obtain ⟨r9, l9, T9, hc9, hR⟩ := hR
    refine gcV_v (rest := []) ⟨hx, hb, hml, hown, hT⟩ (h_Model_checkReturn _ _ _ _ _ hc9) (cwV 1 hT (gV ml_Model_664 im_Model_checkReturn se_Model_checkReturn ini_Model co_Model_checkReturn) rfl rfl rfl pd_Model_checkReturn ⟨rm_hi, rm_lo (Nat.le_of_ble_eq_true rfl)⟩) hK hP hD hS hA hnw henv (Nat.le_of_ble_eq_true rfl) rfl rfl hl.1 rfl (Nat.le_of_ble_eq_true rfl) d_Model_checkStep_86 ⟨Nat.le_refl _, Nat.le_refl _⟩ (fun H locs hP hD hS => ?_)
    clear hc9
    refine lv_goto (tgt := 170) hx hb d_Model_checkStep_89 (by decide) ?_
    obtain ⟨-, -, e3⟩ := re_e hR
    subst e3
    exact W.vret hx hb hr (fun t ht hW => ⟨⟨(), rfl, trivial, by rw [ht]; exact hP, va_K.moved hW.alike hK, hD⟩, hS.F ht⟩) hS.2.2 d_Model_checkStep_170
  replace hR := if_n c8 hR
  by_cases c10 : T0.1 50 p1.toNatClampNeg = (24 : Int32)
  · replace hR := if_p c10 hR
    refine lv_tableIn (off := 86) (tgt := 92) hx hb d_Model_checkStep_6 (by rw [c10]; decide) (by rw [c10]; decide) (by rw [c10]; decide) (by decide) ?_
    refine lv_aload_n hx hb d_Model_checkStep_92 rfl (lv_at hl 0 rfl) ?_
    refine lv_aload_n hx hb d_Model_checkStep_93 rfl (lv_at hl 0 rfl) ?_
    refine rd_Model_126 hx hb hT hown hK hP d_Model_checkStep_94 ?_
    refine lv_iload_n hx hb d_Model_checkStep_97 rfl (lv_at hl 1 rfl) ?_
    replace hR := gd_e hR
    obtain ⟨b11, hR⟩ := hR
    refine laM_37 hx hb hK hP b11 d_Model_checkStep_98 ?_
    replace hR := bi_e hR
    obtain ⟨r12, l12, T12, hc12, hR⟩ := hR
    refine gcV_v (rest := []) ⟨hx, hb, hml, hown, hT⟩ (h_Model_needInt _ _ _ _ _ hc12) (cwV 1 hT (gV ml_Model_667 im_Model_needInt se_Model_needInt ini_Model co_Model_needInt) rfl rfl rfl pd_Model_needInt ⟨rm_hi, rm_lo (Nat.le_of_ble_eq_true rfl)⟩) hK hP hD hS hA hnw henv (Nat.le_of_ble_eq_true rfl) rfl rfl hl.1 rfl (Nat.le_of_ble_eq_true rfl) d_Model_checkStep_99 ⟨Nat.le_refl _, Nat.le_refl _⟩ (fun H locs hP hD hS => ?_)
    clear hc12
    refine lv_goto (tgt := 170) hx hb d_Model_checkStep_102 (by decide) ?_
    obtain ⟨-, -, e3⟩ := re_e hR
    subst e3
    exact W.vret hx hb hr (fun t ht hW => ⟨⟨(), rfl, trivial, by rw [ht]; exact hP, va_K.moved hW.alike hK, hD⟩, hS.F ht⟩) hS.2.2 d_Model_checkStep_170
  replace hR := if_n c10 hR
  by_cases c13 : T0.1 50 p1.toNatClampNeg = (25 : Int32)
  · replace hR := if_p c13 hR
    refine lv_tableIn (off := 99) (tgt := 105) hx hb d_Model_checkStep_6 (by rw [c13]; decide) (by rw [c13]; decide) (by rw [c13]; decide) (by decide) ?_
    refine lv_aload_n hx hb d_Model_checkStep_105 rfl (lv_at hl 0 rfl) ?_
    refine lv_aload_n hx hb d_Model_checkStep_106 rfl (lv_at hl 0 rfl) ?_
    refine rd_Model_126 hx hb hT hown hK hP d_Model_checkStep_107 ?_
    refine lv_iload_n hx hb d_Model_checkStep_110 rfl (lv_at hl 1 rfl) ?_
    replace hR := gd_e hR
    obtain ⟨b14, hR⟩ := hR
    refine laM_37 hx hb hK hP b14 d_Model_checkStep_111 ?_
    replace hR := bi_e hR
    obtain ⟨r15, l15, T15, hc15, hR⟩ := hR
    refine gcV_v (rest := []) ⟨hx, hb, hml, hown, hT⟩ (h_Model_needInt _ _ _ _ _ hc15) (cwV 1 hT (gV ml_Model_667 im_Model_needInt se_Model_needInt ini_Model co_Model_needInt) rfl rfl rfl pd_Model_needInt ⟨rm_hi, rm_lo (Nat.le_of_ble_eq_true rfl)⟩) hK hP hD hS hA hnw henv (Nat.le_of_ble_eq_true rfl) rfl rfl hl.1 rfl (Nat.le_of_ble_eq_true rfl) d_Model_checkStep_112 ⟨Nat.le_refl _, Nat.le_refl _⟩ (fun H locs hP hD hS => ?_)
    clear hc15
    refine lv_aload_n hx hb d_Model_checkStep_115 rfl (lv_at hl 0 rfl) ?_
    replace hR := bi_e hR
    obtain ⟨r16, l16, T16, hc16, hR⟩ := hR
    refine gcV_v (rest := []) ⟨hx, hb, hml, hown, hT⟩ (h_Model_stop _ _ _ _ hc16) (cwV 0 hT (gV ml_Model_670 im_Model_stop se_Model_stop ini_Model co_Model_stop) rfl rfl rfl pd_Model_stop ⟨rm_hi, rm_lo (Nat.le_of_ble_eq_true rfl)⟩) hK hP hD hS hA hnw henv (Nat.le_of_ble_eq_true rfl) rfl rfl hl.1 rfl (Nat.le_of_ble_eq_true rfl) d_Model_checkStep_116 ⟨Nat.le_refl _, Nat.le_refl _⟩ (fun H locs hP hD hS => ?_)
    clear hc16
    refine lv_goto (tgt := 170) hx hb d_Model_checkStep_119 (by decide) ?_
    obtain ⟨-, -, e3⟩ := re_e hR
    subst e3
    exact W.vret hx hb hr (fun t ht hW => ⟨⟨(), rfl, trivial, by rw [ht]; exact hP, va_K.moved hW.alike hK, hD⟩, hS.F ht⟩) hS.2.2 d_Model_checkStep_170
  replace hR := if_n c13 hR
  by_cases c17 : T0.1 50 p1.toNatClampNeg = (26 : Int32)
  · replace hR := if_p c17 hR
    refine lv_tableIn (off := 116) (tgt := 122) hx hb d_Model_checkStep_6 (by rw [c17]; decide) (by rw [c17]; decide) (by rw [c17]; decide) (by decide) ?_
    refine lv_aload_n hx hb d_Model_checkStep_122 rfl (lv_at hl 0 rfl) ?_
    refine lv_iload_n hx hb d_Model_checkStep_123 rfl (lv_at hl 1 rfl) ?_
    replace hR := bi_e hR
    obtain ⟨r18, l18, T18, hc18, hR⟩ := hR
    refine gcV_v (rest := []) ⟨hx, hb, hml, hown, hT⟩ (h_Model_checkRegion _ _ _ _ _ hc18) (cwV 1 hT (gV ml_Model_673 im_Model_checkRegion se_Model_checkRegion ini_Model co_Model_checkRegion) rfl rfl rfl pd_Model_checkRegion ⟨rm_hi, rm_lo (Nat.le_of_ble_eq_true rfl)⟩) hK hP hD hS hA hnw henv (Nat.le_of_ble_eq_true rfl) rfl rfl hl.1 rfl (Nat.le_of_ble_eq_true rfl) d_Model_checkStep_124 ⟨Nat.le_refl _, Nat.le_refl _⟩ (fun H locs hP hD hS => ?_)
    clear hc18
    refine lv_goto (tgt := 170) hx hb d_Model_checkStep_127 (by decide) ?_
    obtain ⟨-, -, e3⟩ := re_e hR
    subst e3
    exact W.vret hx hb hr (fun t ht hW => ⟨⟨(), rfl, trivial, by rw [ht]; exact hP, va_K.moved hW.alike hK, hD⟩, hS.F ht⟩) hS.2.2 d_Model_checkStep_170
  replace hR := if_n c17 hR
  by_cases c19 : T0.1 50 p1.toNatClampNeg = (27 : Int32)
  · replace hR := if_p c19 hR
    refine lv_tableIn (off := 124) (tgt := 130) hx hb d_Model_checkStep_6 (by rw [c19]; decide) (by rw [c19]; decide) (by rw [c19]; decide) (by decide) ?_
    refine lv_aload_n hx hb d_Model_checkStep_130 rfl (lv_at hl 0 rfl) ?_
    refine lv_iload_n hx hb d_Model_checkStep_131 rfl (lv_at hl 1 rfl) ?_
    replace hR := bi_e hR
    obtain ⟨r20, l20, T20, hc20, hR⟩ := hR
    refine gcV_v (rest := []) ⟨hx, hb, hml, hown, hT⟩ (h_Model_checkClose _ _ _ _ _ hc20) (cwV 1 hT (gV ml_Model_676 im_Model_checkClose se_Model_checkClose ini_Model co_Model_checkClose) rfl rfl rfl pd_Model_checkClose ⟨rm_hi, rm_lo (Nat.le_of_ble_eq_true rfl)⟩) hK hP hD hS hA hnw henv (Nat.le_of_ble_eq_true rfl) rfl rfl hl.1 rfl (Nat.le_of_ble_eq_true rfl) d_Model_checkStep_132 ⟨Nat.le_refl _, Nat.le_refl _⟩ (fun H locs hP hD hS => ?_)
    clear hc20
    refine lv_goto (tgt := 170) hx hb d_Model_checkStep_135 (by decide) ?_
    obtain ⟨-, -, e3⟩ := re_e hR
    subst e3
    exact W.vret hx hb hr (fun t ht hW => ⟨⟨(), rfl, trivial, by rw [ht]; exact hP, va_K.moved hW.alike hK, hD⟩, hS.F ht⟩) hS.2.2 d_Model_checkStep_170
  replace hR := if_n c19 hR
  by_cases c21 : T0.1 50 p1.toNatClampNeg = (28 : Int32)
  · replace hR := if_p c21 hR
    refine lv_tableIn (off := 132) (tgt := 138) hx hb d_Model_checkStep_6 (by rw [c21]; decide) (by rw [c21]; decide) (by rw [c21]; decide) (by decide) ?_
    refine lv_aload_n hx hb d_Model_checkStep_138 rfl (lv_at hl 0 rfl) ?_
    refine lv_iload_n hx hb d_Model_checkStep_139 rfl (lv_at hl 1 rfl) ?_
    replace hR := bi_e hR
    obtain ⟨r22, l22, T22, hc22, hR⟩ := hR
    refine gcV_v (rest := []) ⟨hx, hb, hml, hown, hT⟩ (h_Model_checkTry _ _ _ _ _ hc22) (cwV 1 hT (gV ml_Model_679 im_Model_checkTry se_Model_checkTry ini_Model co_Model_checkTry) rfl rfl rfl pd_Model_checkTry ⟨rm_hi, rm_lo (Nat.le_of_ble_eq_true rfl)⟩) hK hP hD hS hA hnw henv (Nat.le_of_ble_eq_true rfl) rfl rfl hl.1 rfl (Nat.le_of_ble_eq_true rfl) d_Model_checkStep_140 ⟨Nat.le_refl _, Nat.le_refl _⟩ (fun H locs hP hD hS => ?_)
    clear hc22
    refine lv_goto (tgt := 170) hx hb d_Model_checkStep_143 (by decide) ?_
    obtain ⟨-, -, e3⟩ := re_e hR
    subst e3
    exact W.vret hx hb hr (fun t ht hW => ⟨⟨(), rfl, trivial, by rw [ht]; exact hP, va_K.moved hW.alike hK, hD⟩, hS.F ht⟩) hS.2.2 d_Model_checkStep_170
  replace hR := if_n c21 hR
  by_cases c23 : T0.1 50 p1.toNatClampNeg = (29 : Int32)
  · replace hR := if_p c23 hR
    refine lv_tableIn (off := 140) (tgt := 146) hx hb d_Model_checkStep_6 (by rw [c23]; decide) (by rw [c23]; decide) (by rw [c23]; decide) (by decide) ?_
    refine lv_aload_n hx hb d_Model_checkStep_146 rfl (lv_at hl 0 rfl) ?_
    refine lv_iload_n hx hb d_Model_checkStep_147 rfl (lv_at hl 1 rfl) ?_
    replace hR := bi_e hR
    obtain ⟨r24, l24, T24, hc24, hR⟩ := hR
    refine gcV_v (rest := []) ⟨hx, hb, hml, hown, hT⟩ (h_Model_checkSet _ _ _ _ _ hc24) (cwV 1 hT (gV ml_Model_682 im_Model_checkSet se_Model_checkSet ini_Model co_Model_checkSet) rfl rfl rfl pd_Model_checkSet ⟨rm_hi, rm_lo (Nat.le_of_ble_eq_true rfl)⟩) hK hP hD hS hA hnw henv (Nat.le_of_ble_eq_true rfl) rfl rfl hl.1 rfl (Nat.le_of_ble_eq_true rfl) d_Model_checkStep_148 ⟨Nat.le_refl _, Nat.le_refl _⟩ (fun H locs hP hD hS => ?_)
    clear hc24
    refine lv_goto (tgt := 170) hx hb d_Model_checkStep_151 (by decide) ?_
    obtain ⟨-, -, e3⟩ := re_e hR
    subst e3
    exact W.vret hx hb hr (fun t ht hW => ⟨⟨(), rfl, trivial, by rw [ht]; exact hP, va_K.moved hW.alike hK, hD⟩, hS.F ht⟩) hS.2.2 d_Model_checkStep_170
  replace hR := if_n c23 hR
  have h325 : (T0.1 50 p1.toNatClampNeg : Int32).toInt < 20 ∨ 29 < (T0.1 50 p1.toNatClampNeg : Int32).toInt := by
    simp only [i_eq, Int32.reduceToInt] at c2 c4 c6 c8 c10 c13 c17 c19 c21 c23; omega
  refine lv_tableOut (tgt := 154) hx hb d_Model_checkStep_6 h325 (by decide) ?_
  refine lv_aload_n hx hb d_Model_checkStep_154 rfl (lv_at hl 0 rfl) ?_
  refine rd_Model_150 hx hb hT hown hK hP d_Model_checkStep_155 ?_
  refine lv_iload_n hx hb d_Model_checkStep_158 rfl (lv_at hl 1 rfl) ?_
  refine lv_aload_n hx hb d_Model_checkStep_159 rfl (lv_at hl 0 rfl) ?_
  refine lv_aload_n hx hb d_Model_checkStep_160 rfl (lv_at hl 0 rfl) ?_
  refine rd_Model_126 hx hb hT hown hK hP d_Model_checkStep_161 ?_
  refine lv_iload_n hx hb d_Model_checkStep_164 rfl (lv_at hl 1 rfl) ?_
  replace hR := gd_e hR
  obtain ⟨b26, hR⟩ := hR
  refine laM_37 hx hb hK hP b26 d_Model_checkStep_165 ?_
  replace hR := bi_e hR
  obtain ⟨r27, l27, T27, hc27, hR⟩ := hR
  refine gcV_i (rest := [.int p1, .ref (ad 46)]) ⟨hx, hb, hml, hown, hT⟩ (h_Model_check _ _ _ _ _ hc27) (cwV 1 hT (gV ml_Model_652 im_Model_check se_Model_check ini_Model co_Model_check) rfl rfl rfl pd_Model_check ⟨rm_hi, rm_lo (Nat.le_of_ble_eq_true rfl)⟩) hK hP hD hS hA hnw henv (Nat.le_of_ble_eq_true rfl) rfl rfl hl.1 rfl (Nat.le_of_ble_eq_true rfl) d_Model_checkStep_166 ⟨Nat.le_refl _, Nat.le_refl _⟩ (fun H locs hP hD hS => ?_)
  clear hc27
  replace hR := gd_e hR
  obtain ⟨b28, hR⟩ := hR
  refine saM_45 hx hb hK hP hD hS b28 d_Model_checkStep_169 (fun T28 eT H locs hP hD hS => ?_)
  replace hR := stK_e eT hR
  clear eT
  obtain ⟨-, -, e3⟩ := re_e hR
  subst e3
  exact W.vret hx hb hr (fun t ht hW => ⟨⟨(), rfl, trivial, by rw [ht]; exact hP, va_K.moved hW.alike hK, hD⟩, hS.F ht⟩) hS.2.2 d_Model_checkStep_170
set_option maxHeartbeats 4000000 in
set_option maxRecDepth 100000 in
theorem sp_Model_checkVar (l : Launch) (dC : Nat → ClassId) (dI : Nat → Nat → Nat) (ea ev ad : Nat → Nat) (km : Nat → ClassId) (F : gF) (nf d : Nat) (h_Model_meaning : mt_Model_meaning l dC dI ea ev ad km F d) (h_Model_bad : mt_Model_bad l dC dI ea ev ad km F d) (h_Model_check : mt_Model_check l dC dI ea ev ad km F d) (h_Model_fit : mt_Model_fit l dC dI ea ev ad km F d) (h_Model_findVar : mt_Model_findVar l dC dI ea ev ad km F d) (h_Model_fail : mt_Model_fail l dC dI ea ev ad km F d) (h_Model_see_JII : mt_Model_see_JII l dC dI ea ev ad km F d) (h_Model_give : mt_Model_give l dC dI ea ev ad km F d) (T0 : gSt) (p1 : Int32) (r0 : Int32) (rl0 : Int64) (T9 : gSt) (hR : rb_Model_checkVar F nf T0 p1 = some (r0, rl0, T9)) : GMv l dC dI LM ad km ea ev y_Model_checkVar w_Model_checkVar (rmD (d + 1)) [.ref (ad 0), .int p1] T0 T9 := by
  intro sz
  refine Met.ofW (cc := b_Model_checkVar) (maxL := 4) (ret := none) (by decide) rfl ?_
  intro p e s m args below meth c s₁ B hml hv
  obtain ⟨rfl, hsz, hP, hK, hD0, hnw, henv⟩ := hv
  have hx := B.exec
  have hb := B.bytes
  have hr := B.returns
  have hT : ∀ w ∈ lw_good, w.before _ s = true := fun w h => atoms_spec (ws := w_Model_checkVar) B.pre w (List.mem_cons_of_mem _ h)
  have hown : s.vm.findClass R_Model = some m.cls := findClass_of_methodNamed B.named
  subst hsz
  have hD := hD0.self (sz := s.heap.size)
  clear hD0
  generalize hAe : va_A (gW LM ad km T0) s.heap.size = A at hD henv ⊢
  have hA : ∀ q : Nat, s.heap.size ≤ q → A q := fun q h => by rw [← hAe]; exact Or.inr h
  have hS : va_S A s.heap s.heap [] := va_S.rf
  have hl := lv_entry ([.ref (ad 0), .int p1]) (n := 4) (Nat.le_of_ble_eq_true rfl)
  rw [lg_entry_eq]
  generalize (lg_sl ([.ref (ad 0), .int p1]) ++ List.replicate (4 - (lg_sl ([.ref (ad 0), .int p1])).length) Slot.unset).toArray = ls at hl ⊢
  have hl : lv_has ls 4 [(0, .ref (ad 0)), (1, .int p1)] := hl
  obtain ⟨G, hG⟩ : ∃ G : Nat → List (Nat × Value) → List Value → gSt → Prop, G = (fun pc lv stk T => ∀ (H : Heap) (locs : List Loc), va_P (dC, dI) cls_all (gW LM ad km T) H → va_D A (gW LM ad km T) → va_S A s.heap H locs → ∀ (ls : Array Slot), lv_has ls 4 lv → W p l e (headSpec w_Model_checkVar (rmD (d + 1))).room s m ([.ref (ad 0), .int p1] : List Value).toArray below meth c H locs 0 0 (MQ below (va_Qv (fun (_ : Unit) => True) (fun _ t => gPost dC dI LM ad km T9 A t) A) ([.ref (ad 0), .int p1] : List Value).toArray s 0 0 A) (F0 m pc ls stk)) := ⟨_, rfl⟩
  have lb_122 : ∀ (T : gSt) (x1 : Int32) (x2 : Int32) (x3 : Int32), rj_Model_checkVar_122 F nf T x1 x2 x3 = some (r0, rl0, T9) → G 122 [(0, .ref (ad 0)), (1, .int x1), (2, .int x2), (3, .int x3)] [] T := by
    intro T x1 x2 x3 hR; unfold rj_Model_checkVar_122 at hR; rw [hG]; intro H locs hP hD hS ls hl
    refine lv_aload_n hx hb d_Model_checkVar_122 rfl (lv_at hl 0 rfl) ?_
    replace hR := bi_e hR
    obtain ⟨r26, l26, T26, hc26, hR⟩ := hR
    refine gcV_i (rest := []) ⟨hx, hb, hml, hown, hT⟩ (h_Model_bad _ _ _ _ hc26) (cwV 0 hT (gV ml_Model_385 im_Model_bad se_Model_bad ini_Model co_Model_bad) rfl rfl rfl pd_Model_bad ⟨rm_hi, rm_lo (Nat.le_of_ble_eq_true rfl)⟩) hK hP hD hS hA hnw henv (Nat.le_of_ble_eq_true rfl) rfl rfl hl.1 rfl (Nat.le_of_ble_eq_true rfl) d_Model_checkVar_123 ⟨Nat.le_refl _, Nat.le_refl _⟩ (fun H locs hP hD hS => ?_)
    clear hc26
    refine lv_if_eq (tgt := 130) hx hb d_Model_checkVar_126 (by decide) (fun c27 => ?_) (fun c27 => ?_)
    · replace hR := if_p c27 hR
      refine lv_aload_n hx hb d_Model_checkVar_130 rfl (lv_at hl 0 rfl) ?_
      refine lv_aload_n hx hb d_Model_checkVar_131 rfl (lv_at hl 0 rfl) ?_
      refine rd_Model_138 hx hb hT hown hK hP d_Model_checkVar_132 ?_
      refine lv_iload_n hx hb d_Model_checkVar_135 rfl (lv_at hl 1 rfl) ?_
      replace hR := gd_e hR
      obtain ⟨b28, hR⟩ := hR
      refine laM_41 hx hb hK hP b28 d_Model_checkVar_136 ?_
      refine lv_aload_n hx hb d_Model_checkVar_137 rfl (lv_at hl 0 rfl) ?_
      refine rd_Model_153 hx hb hT hown hK hP d_Model_checkVar_138 ?_
      refine lv_iload_n hx hb d_Model_checkVar_141 rfl (lv_at hl 1 rfl) ?_
      replace hR := gd_e hR
      obtain ⟨b29, hR⟩ := hR
      refine laM_46 hx hb hK hP b29 d_Model_checkVar_142 ?_
      refine lv_iload_n hx hb d_Model_checkVar_143 rfl (lv_at hl 2 rfl) ?_
      replace hR := bi_e hR
      obtain ⟨r30, l30, T30, hc30, hR⟩ := hR
      refine gcV_v (rest := []) ⟨hx, hb, hml, hown, hT⟩ (h_Model_see_JII _ _ _ _ _ _ _ hc30) (cwV 3 hT (gV ml_Model_643 im_Model_see_JII se_Model_see_JII ini_Model co_Model_see_JII) rfl rfl rfl pd_Model_see_JII ⟨rm_hi, rm_lo (Nat.le_of_ble_eq_true rfl)⟩) hK hP hD hS hA hnw henv (Nat.le_of_ble_eq_true rfl) rfl rfl hl.1 rfl (Nat.le_of_ble_eq_true rfl) d_Model_checkVar_144 ⟨Nat.le_refl _, Nat.le_refl _⟩ (fun H locs hP hD hS => ?_)
      clear hc30
      refine lv_aload_n hx hb d_Model_checkVar_147 rfl (lv_at hl 0 rfl) ?_
      refine rd_Model_630 hx hb hT hown hK hP d_Model_checkVar_148 ?_
      refine lv_if_eq (tgt := 180) hx hb d_Model_checkVar_151 (by decide) (fun c31 => ?_) (fun c31 => ?_)
      · replace hR := if_p c31 hR
        obtain ⟨-, -, e3⟩ := re_e hR
        subst e3
        exact W.vret hx hb hr (fun t ht hW => ⟨⟨(), rfl, trivial, by rw [ht]; exact hP, va_K.moved hW.alike hK, hD⟩, hS.F ht⟩) hS.2.2 d_Model_checkVar_180
      · replace hR := if_n c31 hR
        refine lv_aload_n hx hb d_Model_checkVar_154 rfl (lv_at hl 0 rfl) ?_
        refine lv_aload_n hx hb d_Model_checkVar_155 rfl (lv_at hl 0 rfl) ?_
        refine rd_Model_153 hx hb hT hown hK hP d_Model_checkVar_156 ?_
        refine lv_iload_n hx hb d_Model_checkVar_159 rfl (lv_at hl 1 rfl) ?_
        replace hR := gd_e hR
        obtain ⟨b32, hR⟩ := hR
        refine laM_46 hx hb hK hP b32 d_Model_checkVar_160 ?_
        refine lv_iload_n hx hb d_Model_checkVar_161 rfl (lv_at hl 2 rfl) ?_
        refine lv_iload_n hx hb d_Model_checkVar_162 rfl (lv_at hl 3 rfl) ?_
        refine lv_aload_n hx hb d_Model_checkVar_163 rfl (lv_at hl 0 rfl) ?_
        refine rd_Model_126 hx hb hT hown hK hP d_Model_checkVar_164 ?_
        refine lv_iload_n hx hb d_Model_checkVar_167 rfl (lv_at hl 1 rfl) ?_
        replace hR := gd_e hR
        obtain ⟨b33, hR⟩ := hR
        refine laM_37 hx hb hK hP b33 d_Model_checkVar_168 ?_
        refine lv_if_lt (tgt := 176) hx hb d_Model_checkVar_169 (by decide) (fun c34 => ?_) (fun c34 => ?_)
        · replace hR := if_p c34 hR
          refine lv_iconst (v := 0) hx hb d_Model_checkVar_176 (by decide) ?_
          replace hR := bi_e hR
          obtain ⟨r35, l35, T35, hc35, hR⟩ := hR
          refine gcV_v (rest := []) ⟨hx, hb, hml, hown, hT⟩ (h_Model_give _ _ _ _ _ _ _ _ hc35) (cwV 4 hT (gV ml_Model_694 im_Model_give se_Model_give ini_Model co_Model_give) rfl rfl rfl pd_Model_give ⟨rm_hi, rm_lo (Nat.le_of_ble_eq_true rfl)⟩) hK hP hD hS hA hnw henv (Nat.le_of_ble_eq_true rfl) rfl rfl hl.1 rfl (Nat.le_of_ble_eq_true rfl) d_Model_checkVar_177 ⟨Nat.le_refl _, Nat.le_refl _⟩ (fun H locs hP hD hS => ?_)
          clear hc35
          obtain ⟨-, -, e3⟩ := re_e hR
          subst e3
          exact W.vret hx hb hr (fun t ht hW => ⟨⟨(), rfl, trivial, by rw [ht]; exact hP, va_K.moved hW.alike hK, hD⟩, hS.F ht⟩) hS.2.2 d_Model_checkVar_180
        · replace hR := if_n c34 hR
          refine lv_iconst (v := 1) hx hb d_Model_checkVar_172 (by decide) ?_
          refine lv_goto (tgt := 177) hx hb d_Model_checkVar_173 (by decide) ?_
          replace hR := bi_e hR
          obtain ⟨r36, l36, T36, hc36, hR⟩ := hR
          refine gcV_v (rest := []) ⟨hx, hb, hml, hown, hT⟩ (h_Model_give _ _ _ _ _ _ _ _ hc36) (cwV 4 hT (gV ml_Model_694 im_Model_give se_Model_give ini_Model co_Model_give) rfl rfl rfl pd_Model_give ⟨rm_hi, rm_lo (Nat.le_of_ble_eq_true rfl)⟩) hK hP hD hS hA hnw henv (Nat.le_of_ble_eq_true rfl) rfl rfl hl.1 rfl (Nat.le_of_ble_eq_true rfl) d_Model_checkVar_177 ⟨Nat.le_refl _, Nat.le_refl _⟩ (fun H locs hP hD hS => ?_)
          clear hc36
          obtain ⟨-, -, e3⟩ := re_e hR
          subst e3
          exact W.vret hx hb hr (fun t ht hW => ⟨⟨(), rfl, trivial, by rw [ht]; exact hP, va_K.moved hW.alike hK, hD⟩, hS.F ht⟩) hS.2.2 d_Model_checkVar_180
    · replace hR := if_n c27 hR
      obtain ⟨-, -, e3⟩ := re_e hR
      subst e3
      exact W.vret hx hb hr (fun t ht hW => ⟨⟨(), rfl, trivial, by rw [ht]; exact hP, va_K.moved hW.alike hK, hD⟩, hS.F ht⟩) hS.2.2 d_Model_checkVar_129
  have lb_91 : ∀ (T : gSt) (x1 : Int32) (x2 : Int32) (x3 : Int32), rj_Model_checkVar_91 F nf T x1 x2 x3 = some (r0, rl0, T9) → G 91 [(0, .ref (ad 0)), (1, .int x1), (2, .int x2), (3, .int x3)] [] T := by
    intro T x1 x2 x3 hR; unfold rj_Model_checkVar_91 at hR; rw [hG]; intro H locs hP hD hS ls hl
    refine lv_aload_n hx hb d_Model_checkVar_91 rfl (lv_at hl 0 rfl) ?_
    replace hR := bi_e hR
    obtain ⟨r19, l19, T19, hc19, hR⟩ := hR
    refine gcV_i (rest := []) ⟨hx, hb, hml, hown, hT⟩ (h_Model_bad _ _ _ _ hc19) (cwV 0 hT (gV ml_Model_385 im_Model_bad se_Model_bad ini_Model co_Model_bad) rfl rfl rfl pd_Model_bad ⟨rm_hi, rm_lo (Nat.le_of_ble_eq_true rfl)⟩) hK hP hD hS hA hnw henv (Nat.le_of_ble_eq_true rfl) rfl rfl hl.1 rfl (Nat.le_of_ble_eq_true rfl) d_Model_checkVar_92 ⟨Nat.le_refl _, Nat.le_refl _⟩ (fun H locs hP hD hS => ?_)
    clear hc19
    refine lv_if_ne (tgt := 122) hx hb d_Model_checkVar_95 (by decide) (fun c20 => ?_) (fun c20 => ?_)
    · replace hR := if_n c20 hR
      have g := lb_122 T19 x1 x2 x3 hR
      rw [hG] at g
      exact g _ _ hP hD hS _ (lv_sub hl [0, 1, 2, 3] rfl)
    · replace hR := if_p c20 hR
      refine lv_aload_n hx hb d_Model_checkVar_98 rfl (lv_at hl 0 rfl) ?_
      refine lv_aload_n hx hb d_Model_checkVar_99 rfl (lv_at hl 0 rfl) ?_
      refine rd_Model_138 hx hb hT hown hK hP d_Model_checkVar_100 ?_
      refine lv_iload_n hx hb d_Model_checkVar_103 rfl (lv_at hl 1 rfl) ?_
      replace hR := gd_e hR
      obtain ⟨b21, hR⟩ := hR
      refine laM_41 hx hb hK hP b21 d_Model_checkVar_104 ?_
      replace hR := bi_e hR
      obtain ⟨r22, l22, T22, hc22, hR⟩ := hR
      refine gcV_i (rest := []) ⟨hx, hb, hml, hown, hT⟩ (h_Model_findVar _ _ _ _ _ hc22) (cwV 1 hT (gV ml_Model_691 im_Model_findVar se_Model_findVar ini_Model co_Model_findVar) rfl rfl rfl pd_Model_findVar ⟨rm_hi, rm_lo (Nat.le_of_ble_eq_true rfl)⟩) hK hP hD hS hA hnw henv (Nat.le_of_ble_eq_true rfl) rfl rfl hl.1 rfl (Nat.le_of_ble_eq_true rfl) d_Model_checkVar_105 ⟨Nat.le_refl _, Nat.le_refl _⟩ (fun H locs hP hD hS => ?_)
      clear hc22
      refine lv_if_lt (tgt := 122) hx hb d_Model_checkVar_108 (by decide) (fun c23 => ?_) (fun c23 => ?_)
      · replace hR := if_p c23 hR
        have g := lb_122 T22 x1 x2 x3 hR
        rw [hG] at g
        exact g _ _ hP hD hS _ (lv_sub hl [0, 1, 2, 3] rfl)
      · replace hR := if_n c23 hR
        refine lv_aload_n hx hb d_Model_checkVar_111 rfl (lv_at hl 0 rfl) ?_
        refine lv_iconst (v := 2) hx hb d_Model_checkVar_112 (by decide) ?_
        refine lv_aload_n hx hb d_Model_checkVar_113 rfl (lv_at hl 0 rfl) ?_
        refine rd_Model_141 hx hb hT hown hK hP d_Model_checkVar_114 ?_
        refine lv_iload_n hx hb d_Model_checkVar_117 rfl (lv_at hl 1 rfl) ?_
        replace hR := gd_e hR
        obtain ⟨b24, hR⟩ := hR
        refine laM_42 hx hb hK hP b24 d_Model_checkVar_118 ?_
        replace hR := bi_e hR
        obtain ⟨r25, l25, T25, hc25, hR⟩ := hR
        refine gcV_v (rest := []) ⟨hx, hb, hml, hown, hT⟩ (h_Model_fail _ _ _ _ _ _ hc25) (cwV 2 hT (gV ml_Model_381 im_Model_fail se_Model_fail ini_Model co_Model_fail) rfl rfl rfl pd_Model_fail ⟨rm_hi, rm_lo (Nat.le_of_ble_eq_true rfl)⟩) hK hP hD hS hA hnw henv (Nat.le_of_ble_eq_true rfl) rfl rfl hl.1 rfl (Nat.le_of_ble_eq_true rfl) d_Model_checkVar_119 ⟨Nat.le_refl _, Nat.le_refl _⟩ (fun H locs hP hD hS => ?_)
        clear hc25
        have g := lb_122 T25 x1 x2 x3 hR
        rw [hG] at g
        exact g _ _ hP hD hS _ (lv_sub hl [0, 1, 2, 3] rfl)
  have lb_51 : ∀ (T : gSt) (x1 : Int32) (x2 : Int32) (y0 : Int32), rj_Model_checkVar_51 F nf T x1 x2 y0 = some (r0, rl0, T9) → G 51 [(0, .ref (ad 0)), (1, .int x1), (2, .int x2)] [.int y0] T := by
    intro T x1 x2 y0 hR; unfold rj_Model_checkVar_51 at hR; rw [hG]; intro H locs hP hD hS ls hl
    refine lv_istore_n (lv' := [(3, .int y0), (0, .ref (ad 0)), (1, .int x1), (2, .int x2)]) hx hb d_Model_checkVar_51 rfl hl (by decide) rfl (fun ls hl => ?_)
    refine lv_aload_n hx hb d_Model_checkVar_52 rfl (lv_at hl 1 rfl) ?_
    refine rd_Model_126 hx hb hT hown hK hP d_Model_checkVar_53 ?_
    refine lv_iload_n hx hb d_Model_checkVar_56 rfl (lv_at hl 2 rfl) ?_
    replace hR := gd_e hR
    obtain ⟨b10, hR⟩ := hR
    refine laM_37 hx hb hK hP b10 d_Model_checkVar_57 ?_
    refine lv_if_lt (tgt := 91) hx hb d_Model_checkVar_58 (by decide) (fun c11 => ?_) (fun c11 => ?_)
    · replace hR := if_p c11 hR
      have g := lb_91 T x1 x2 y0 hR
      rw [hG] at g
      exact g _ _ hP hD hS _ (lv_sub hl [1, 2, 3, 0] rfl)
    · replace hR := if_n c11 hR
      refine lv_aload_n hx hb d_Model_checkVar_61 rfl (lv_at hl 1 rfl) ?_
      refine lv_iload_n hx hb d_Model_checkVar_62 rfl (lv_at hl 0 rfl) ?_
      refine lv_iload_n hx hb d_Model_checkVar_63 rfl (lv_at hl 3 rfl) ?_
      refine lv_aload_n hx hb d_Model_checkVar_64 rfl (lv_at hl 1 rfl) ?_
      refine rd_Model_123 hx hb hT hown hK hP d_Model_checkVar_65 ?_
      refine lv_aload_n hx hb d_Model_checkVar_68 rfl (lv_at hl 1 rfl) ?_
      refine rd_Model_126 hx hb hT hown hK hP d_Model_checkVar_69 ?_
      refine lv_iload_n hx hb d_Model_checkVar_72 rfl (lv_at hl 2 rfl) ?_
      replace hR := gd_e hR
      obtain ⟨b12, hR⟩ := hR
      refine laM_37 hx hb hK hP b12 d_Model_checkVar_73 ?_
      refine lv_if_ge (tgt := 81) hx hb d_Model_checkVar_74 (by decide) (fun c13 => ?_) (fun c13 => ?_)
      · replace hR := if_p c13 hR
        refine lv_aload_n hx hb d_Model_checkVar_81 rfl (lv_at hl 1 rfl) ?_
        refine rd_Model_126 hx hb hT hown hK hP d_Model_checkVar_82 ?_
        refine lv_iload_n hx hb d_Model_checkVar_85 rfl (lv_at hl 2 rfl) ?_
        replace hR := gd_e hR
        obtain ⟨b14, hR⟩ := hR
        refine laM_37 hx hb hK hP b14 d_Model_checkVar_86 ?_
        replace hR := gd_e hR
        obtain ⟨b15, hR⟩ := hR
        refine laM_36 hx hb hK hP b15 d_Model_checkVar_87 ?_
        replace hR := bi_e hR
        obtain ⟨r16, l16, T16, hc16, hR⟩ := hR
        refine gcV_v (rest := []) ⟨hx, hb, hml, hown, hT⟩ (h_Model_fit _ _ _ _ _ _ _ hc16) (cwV 3 hT (gV ml_Model_688 im_Model_fit se_Model_fit ini_Model co_Model_fit) rfl rfl rfl pd_Model_fit ⟨rm_hi, rm_lo (Nat.le_of_ble_eq_true rfl)⟩) hK hP hD hS hA hnw henv (Nat.le_of_ble_eq_true rfl) rfl rfl hl.1 rfl (Nat.le_of_ble_eq_true rfl) d_Model_checkVar_88 ⟨Nat.le_refl _, Nat.le_refl _⟩ (fun H locs hP hD hS => ?_)
        clear hc16
        have g := lb_91 T16 x1 x2 y0 hR
        rw [hG] at g
        exact g _ _ hP hD hS _ (lv_sub hl [1, 2, 3, 0] rfl)
      · replace hR := if_n c13 hR
        refine lv_iload_n hx hb d_Model_checkVar_77 rfl (lv_at hl 2 rfl) ?_
        refine lv_goto (tgt := 87) hx hb d_Model_checkVar_78 (by decide) ?_
        replace hR := gd_e hR
        obtain ⟨b17, hR⟩ := hR
        refine laM_36 hx hb hK hP b17 d_Model_checkVar_87 ?_
        replace hR := bi_e hR
        obtain ⟨r18, l18, T18, hc18, hR⟩ := hR
        refine gcV_v (rest := []) ⟨hx, hb, hml, hown, hT⟩ (h_Model_fit _ _ _ _ _ _ _ hc18) (cwV 3 hT (gV ml_Model_688 im_Model_fit se_Model_fit ini_Model co_Model_fit) rfl rfl rfl pd_Model_fit ⟨rm_hi, rm_lo (Nat.le_of_ble_eq_true rfl)⟩) hK hP hD hS hA hnw henv (Nat.le_of_ble_eq_true rfl) rfl rfl hl.1 rfl (Nat.le_of_ble_eq_true rfl) d_Model_checkVar_88 ⟨Nat.le_refl _, Nat.le_refl _⟩ (fun H locs hP hD hS => ?_)
        clear hc18
        have g := lb_91 T18 x1 x2 y0 hR
        rw [hG] at g
        exact g _ _ hP hD hS _ (lv_sub hl [1, 2, 3, 0] rfl)
  unfold rb_Model_checkVar at hR
  refine lv_aload_n hx hb d_Model_checkVar_0 rfl (lv_at hl 0 rfl) ?_
  refine lv_dup hx hb d_Model_checkVar_1 rfl ?_
  refine rd_Model_685 hx hb hT hown hK hP d_Model_checkVar_2 ?_
  refine lv_iconst (v := 1) hx hb d_Model_checkVar_5 (by decide) ?_
  refine lv_iadd hx hb d_Model_checkVar_6 ?_
  refine wr_Model_685 hx hb hT hown hK hP hD hS d_Model_checkVar_7 (fun T1 eT H locs hP hD hS => ?_)
  replace hR := stK_e eT hR
  clear eT
  refine lv_aload_n hx hb d_Model_checkVar_10 rfl (lv_at hl 0 rfl) ?_
  refine lv_aload_n hx hb d_Model_checkVar_11 rfl (lv_at hl 0 rfl) ?_
  refine rd_Model_129 hx hb hT hown hK hP d_Model_checkVar_12 ?_
  refine lv_iload_n hx hb d_Model_checkVar_15 rfl (lv_at hl 1 rfl) ?_
  replace hR := gd_e hR
  obtain ⟨b2, hR⟩ := hR
  refine laM_38 hx hb hK hP b2 d_Model_checkVar_16 ?_
  replace hR := bi_e hR
  obtain ⟨r3, l3, T3, hc3, hR⟩ := hR
  refine gcV_i (rest := []) ⟨hx, hb, hml, hown, hT⟩ (h_Model_meaning _ _ _ _ _ hc3) (cwV 1 hT (gV ml_Model_584 im_Model_meaning se_Model_meaning ini_Model co_Model_meaning) rfl rfl rfl pd_Model_meaning ⟨rm_hi, rm_lo (Nat.le_of_ble_eq_true rfl)⟩) hK hP hD hS hA hnw henv (Nat.le_of_ble_eq_true rfl) rfl rfl hl.1 rfl (Nat.le_of_ble_eq_true rfl) d_Model_checkVar_17 ⟨Nat.le_refl _, Nat.le_refl _⟩ (fun H locs hP hD hS => ?_)
  clear hc3
  refine lv_istore_n (lv' := [(2, .int r3), (0, .ref (ad 0)), (1, .int p1)]) hx hb d_Model_checkVar_20 rfl hl (by decide) rfl (fun ls hl => ?_)
  refine lv_aload_n hx hb d_Model_checkVar_21 rfl (lv_at hl 1 rfl) ?_
  refine rd_Model_126 hx hb hT hown hK hP d_Model_checkVar_22 ?_
  refine lv_iload_n hx hb d_Model_checkVar_25 rfl (lv_at hl 2 rfl) ?_
  replace hR := gd_e hR
  obtain ⟨b4, hR⟩ := hR
  refine laM_37 hx hb hK hP b4 d_Model_checkVar_26 ?_
  refine lv_if_lt (tgt := 37) hx hb d_Model_checkVar_27 (by decide) (fun c5 => ?_) (fun c5 => ?_)
  · replace hR := if_p c5 hR
    refine lv_iconst (v := (-1)) hx hb d_Model_checkVar_37 (by decide) ?_
    refine lv_goto (tgt := 51) hx hb d_Model_checkVar_38 (by decide) ?_
    have g := lb_51 T3 p1 r3 (-1 : Int32) hR
    rw [hG] at g
    exact g _ _ hP hD hS _ (lv_sub hl [1, 2, 0] rfl)
  · replace hR := if_n c5 hR
    refine lv_aload_n hx hb d_Model_checkVar_30 rfl (lv_at hl 1 rfl) ?_
    replace hR := bi_e hR
    obtain ⟨r6, l6, T6, hc6, hR⟩ := hR
    refine gcV_i (rest := []) ⟨hx, hb, hml, hown, hT⟩ (h_Model_bad _ _ _ _ hc6) (cwV 0 hT (gV ml_Model_385 im_Model_bad se_Model_bad ini_Model co_Model_bad) rfl rfl rfl pd_Model_bad ⟨rm_hi, rm_lo (Nat.le_of_ble_eq_true rfl)⟩) hK hP hD hS hA hnw henv (Nat.le_of_ble_eq_true rfl) rfl rfl hl.1 rfl (Nat.le_of_ble_eq_true rfl) d_Model_checkVar_31 ⟨Nat.le_refl _, Nat.le_refl _⟩ (fun H locs hP hD hS => ?_)
    clear hc6
    refine lv_if_eq (tgt := 41) hx hb d_Model_checkVar_34 (by decide) (fun c7 => ?_) (fun c7 => ?_)
    · replace hR := if_p c7 hR
      refine lv_aload_n hx hb d_Model_checkVar_41 rfl (lv_at hl 1 rfl) ?_
      refine lv_aload_n hx hb d_Model_checkVar_42 rfl (lv_at hl 1 rfl) ?_
      refine rd_Model_126 hx hb hT hown hK hP d_Model_checkVar_43 ?_
      refine lv_iload_n hx hb d_Model_checkVar_46 rfl (lv_at hl 2 rfl) ?_
      replace hR := gd_e hR
      obtain ⟨b8, hR⟩ := hR
      refine laM_37 hx hb hK hP b8 d_Model_checkVar_47 ?_
      replace hR := bi_e hR
      obtain ⟨r9, l9, T9, hc9, hR⟩ := hR
      refine gcV_i (rest := []) ⟨hx, hb, hml, hown, hT⟩ (h_Model_check _ _ _ _ _ hc9) (cwV 1 hT (gV ml_Model_652 im_Model_check se_Model_check ini_Model co_Model_check) rfl rfl rfl pd_Model_check ⟨rm_hi, rm_lo (Nat.le_of_ble_eq_true rfl)⟩) hK hP hD hS hA hnw henv (Nat.le_of_ble_eq_true rfl) rfl rfl hl.1 rfl (Nat.le_of_ble_eq_true rfl) d_Model_checkVar_48 ⟨Nat.le_refl _, Nat.le_refl _⟩ (fun H locs hP hD hS => ?_)
      clear hc9
      have g := lb_51 T9 p1 r3 r9 hR
      rw [hG] at g
      exact g _ _ hP hD hS _ (lv_sub hl [1, 2, 0] rfl)
    · replace hR := if_n c7 hR
      refine lv_iconst (v := (-1)) hx hb d_Model_checkVar_37 (by decide) ?_
      refine lv_goto (tgt := 51) hx hb d_Model_checkVar_38 (by decide) ?_
      have g := lb_51 T6 p1 r3 (-1 : Int32) hR
      rw [hG] at g
      exact g _ _ hP hD hS _ (lv_sub hl [1, 2, 0] rfl)
set_option maxHeartbeats 4000000 in
set_option maxRecDepth 100000 in
theorem sp_Model_give (l : Launch) (dC : Nat → ClassId) (dI : Nat → Nat → Nat) (ea ev ad : Nat → Nat) (km : Nat → ClassId) (F : gF) (nf d : Nat) (T0 : gSt) (p1 : Int32) (p2 : Int32) (p3 : Int32) (p4 : Int32) (r0 : Int32) (rl0 : Int64) (T9 : gSt) (hR : rb_Model_give F nf T0 p1 p2 p3 p4 = some (r0, rl0, T9)) : GMv l dC dI LM ad km ea ev y_Model_give w_Model_give (rmD (d + 1)) [.ref (ad 0), .int p1, .int p2, .int p3, .int p4] T0 T9 := by
  intro sz
  refine Met.ofW (cc := b_Model_give) (maxL := 6) (ret := none) (by decide) rfl ?_
  intro p e s m args below meth c s₁ B hml hv
  obtain ⟨rfl, hsz, hP, hK, hD0, hnw, henv⟩ := hv
  have hx := B.exec
  have hb := B.bytes
  have hr := B.returns
  have hT : ∀ w ∈ lw_good, w.before _ s = true := fun w h => atoms_spec (ws := w_Model_give) B.pre w (List.mem_cons_of_mem _ h)
  have hown : s.vm.findClass R_Model = some m.cls := findClass_of_methodNamed B.named
  subst hsz
  have hD := hD0.self (sz := s.heap.size)
  clear hD0
  generalize hAe : va_A (gW LM ad km T0) s.heap.size = A at hD henv ⊢
  have hA : ∀ q : Nat, s.heap.size ≤ q → A q := fun q h => by rw [← hAe]; exact Or.inr h
  have hS : va_S A s.heap s.heap [] := va_S.rf
  have hl := lv_entry ([.ref (ad 0), .int p1, .int p2, .int p3, .int p4]) (n := 6) (Nat.le_of_ble_eq_true rfl)
  rw [lg_entry_eq]
  generalize (lg_sl ([.ref (ad 0), .int p1, .int p2, .int p3, .int p4]) ++ List.replicate (6 - (lg_sl ([.ref (ad 0), .int p1, .int p2, .int p3, .int p4])).length) Slot.unset).toArray = ls at hl ⊢
  have hl : lv_has ls 6 [(0, .ref (ad 0)), (1, .int p1), (2, .int p2), (3, .int p3), (4, .int p4)] := hl
  obtain ⟨G, hG⟩ : ∃ G : Nat → List (Nat × Value) → List Value → gSt → Prop, G = (fun pc lv stk T => ∀ (H : Heap) (locs : List Loc), va_P (dC, dI) cls_all (gW LM ad km T) H → va_D A (gW LM ad km T) → va_S A s.heap H locs → ∀ (ls : Array Slot), lv_has ls 6 lv → W p l e (headSpec w_Model_give (rmD (d + 1))).room s m ([.ref (ad 0), .int p1, .int p2, .int p3, .int p4] : List Value).toArray below meth c H locs 0 0 (MQ below (va_Qv (fun (_ : Unit) => True) (fun _ t => gPost dC dI LM ad km T9 A t) A) ([.ref (ad 0), .int p1, .int p2, .int p3, .int p4] : List Value).toArray s 0 0 A) (F0 m pc ls stk)) := ⟨_, rfl⟩
  have lb_30 : ∀ (T : gSt) (x2 : Int32) (x3 : Int32) (x4 : Int32) (x5 : Int32) (y0 : Int32), rj_Model_give_30 F nf T x2 x3 x4 x5 y0 = some (r0, rl0, T9) → G 30 [(0, .ref (ad 0)), (2, .int x2), (3, .int x3), (4, .int x4), (5, .int x5)] [.int y0, .ref (ad 0)] T := by
    intro T x2 x3 x4 x5 y0 hR; unfold rj_Model_give_30 at hR; rw [hG]; intro H locs hP hD hS ls hl
    refine wr_Model_624 hx hb hT hown hK hP hD hS d_Model_give_30 (fun T3 eT H locs hP hD hS => ?_)
    replace hR := stK_e eT hR
    clear eT
    refine lv_aload_n hx hb d_Model_give_33 rfl (lv_at hl 0 rfl) ?_
    refine lv_iload hx hb d_Model_give_34 (lv_at hl 3 rfl) ?_
    refine lv_if_eq (tgt := 77) hx hb d_Model_give_36 (by decide) (fun c4 => ?_) (fun c4 => ?_)
    · replace hR := if_p c4 hR
      refine lv_aload_n hx hb d_Model_give_77 rfl (lv_at hl 0 rfl) ?_
      refine rd_Model_627 hx hb hT hown hK hP d_Model_give_78 ?_
      refine lv_iload hx hb d_Model_give_81 (lv_at hl 4 rfl) ?_
      refine lv_iconst (v := (-1)) hx hb d_Model_give_83 (by decide) ?_
      refine lv_ixor hx hb d_Model_give_84 ?_
      refine lv_iand hx hb d_Model_give_85 ?_
      refine wr_Model_627 hx hb hT hown hK hP hD hS d_Model_give_86 (fun T5 eT H locs hP hD hS => ?_)
      replace hR := stK_e eT hR
      clear eT
      obtain ⟨-, -, e3⟩ := re_e hR
      subst e3
      exact W.vret hx hb hr (fun t ht hW => ⟨⟨(), rfl, trivial, by rw [ht]; exact hP, va_K.moved hW.alike hK, hD⟩, hS.F ht⟩) hS.2.2 d_Model_give_89
    · replace hR := if_n c4 hR
      refine lv_iload_n hx hb d_Model_give_39 rfl (lv_at hl 1 rfl) ?_
      refine lv_if_le (tgt := 77) hx hb d_Model_give_40 (by decide) (fun c6 => ?_) (fun c6 => ?_)
      · replace hR := if_p c6 hR
        refine lv_aload_n hx hb d_Model_give_77 rfl (lv_at hl 0 rfl) ?_
        refine rd_Model_627 hx hb hT hown hK hP d_Model_give_78 ?_
        refine lv_iload hx hb d_Model_give_81 (lv_at hl 4 rfl) ?_
        refine lv_iconst (v := (-1)) hx hb d_Model_give_83 (by decide) ?_
        refine lv_ixor hx hb d_Model_give_84 ?_
        refine lv_iand hx hb d_Model_give_85 ?_
        refine wr_Model_627 hx hb hT hown hK hP hD hS d_Model_give_86 (fun T7 eT H locs hP hD hS => ?_)
        replace hR := stK_e eT hR
        clear eT
        obtain ⟨-, -, e3⟩ := re_e hR
        subst e3
        exact W.vret hx hb hr (fun t ht hW => ⟨⟨(), rfl, trivial, by rw [ht]; exact hP, va_K.moved hW.alike hK, hD⟩, hS.F ht⟩) hS.2.2 d_Model_give_89
      · replace hR := if_n c6 hR
        refine lv_aload_n hx hb d_Model_give_43 rfl (lv_at hl 0 rfl) ?_
        refine rd_Model_156 hx hb hT hown hK hP d_Model_give_44 ?_
        refine lv_iload_n hx hb d_Model_give_47 rfl (lv_at hl 1 rfl) ?_
        replace hR := gd_e hR
        obtain ⟨b8, hR⟩ := hR
        refine laM_47 hx hb hK hP b8 d_Model_give_48 ?_
        refine lv_iconst (v := 2) hx hb d_Model_give_49 (by decide) ?_
        refine lv_icmp_ne (tgt := 77) hx hb d_Model_give_50 (by decide) (fun c9 => ?_) (fun c9 => ?_)
        · replace hR := if_n c9 hR
          refine lv_aload_n hx hb d_Model_give_77 rfl (lv_at hl 0 rfl) ?_
          refine rd_Model_627 hx hb hT hown hK hP d_Model_give_78 ?_
          refine lv_iload hx hb d_Model_give_81 (lv_at hl 4 rfl) ?_
          refine lv_iconst (v := (-1)) hx hb d_Model_give_83 (by decide) ?_
          refine lv_ixor hx hb d_Model_give_84 ?_
          refine lv_iand hx hb d_Model_give_85 ?_
          refine wr_Model_627 hx hb hT hown hK hP hD hS d_Model_give_86 (fun T10 eT H locs hP hD hS => ?_)
          replace hR := stK_e eT hR
          clear eT
          obtain ⟨-, -, e3⟩ := re_e hR
          subst e3
          exact W.vret hx hb hr (fun t ht hW => ⟨⟨(), rfl, trivial, by rw [ht]; exact hP, va_K.moved hW.alike hK, hD⟩, hS.F ht⟩) hS.2.2 d_Model_give_89
        · replace hR := if_p c9 hR
          refine lv_iload_n hx hb d_Model_give_53 rfl (lv_at hl 2 rfl) ?_
          refine lv_if_le (tgt := 77) hx hb d_Model_give_54 (by decide) (fun c11 => ?_) (fun c11 => ?_)
          · replace hR := if_p c11 hR
            refine lv_aload_n hx hb d_Model_give_77 rfl (lv_at hl 0 rfl) ?_
            refine rd_Model_627 hx hb hT hown hK hP d_Model_give_78 ?_
            refine lv_iload hx hb d_Model_give_81 (lv_at hl 4 rfl) ?_
            refine lv_iconst (v := (-1)) hx hb d_Model_give_83 (by decide) ?_
            refine lv_ixor hx hb d_Model_give_84 ?_
            refine lv_iand hx hb d_Model_give_85 ?_
            refine wr_Model_627 hx hb hT hown hK hP hD hS d_Model_give_86 (fun T12 eT H locs hP hD hS => ?_)
            replace hR := stK_e eT hR
            clear eT
            obtain ⟨-, -, e3⟩ := re_e hR
            subst e3
            exact W.vret hx hb hr (fun t ht hW => ⟨⟨(), rfl, trivial, by rw [ht]; exact hP, va_K.moved hW.alike hK, hD⟩, hS.F ht⟩) hS.2.2 d_Model_give_89
          · replace hR := if_n c11 hR
            refine lv_aload_n hx hb d_Model_give_57 rfl (lv_at hl 0 rfl) ?_
            refine rd_Model_156 hx hb hT hown hK hP d_Model_give_58 ?_
            refine lv_iload_n hx hb d_Model_give_61 rfl (lv_at hl 2 rfl) ?_
            replace hR := gd_e hR
            obtain ⟨b13, hR⟩ := hR
            refine laM_47 hx hb hK hP b13 d_Model_give_62 ?_
            refine lv_iconst (v := 1) hx hb d_Model_give_63 (by decide) ?_
            refine lv_icmp_ne (tgt := 77) hx hb d_Model_give_64 (by decide) (fun c14 => ?_) (fun c14 => ?_)
            · replace hR := if_n c14 hR
              refine lv_aload_n hx hb d_Model_give_77 rfl (lv_at hl 0 rfl) ?_
              refine rd_Model_627 hx hb hT hown hK hP d_Model_give_78 ?_
              refine lv_iload hx hb d_Model_give_81 (lv_at hl 4 rfl) ?_
              refine lv_iconst (v := (-1)) hx hb d_Model_give_83 (by decide) ?_
              refine lv_ixor hx hb d_Model_give_84 ?_
              refine lv_iand hx hb d_Model_give_85 ?_
              refine wr_Model_627 hx hb hT hown hK hP hD hS d_Model_give_86 (fun T15 eT H locs hP hD hS => ?_)
              replace hR := stK_e eT hR
              clear eT
              obtain ⟨-, -, e3⟩ := re_e hR
              subst e3
              exact W.vret hx hb hr (fun t ht hW => ⟨⟨(), rfl, trivial, by rw [ht]; exact hP, va_K.moved hW.alike hK, hD⟩, hS.F ht⟩) hS.2.2 d_Model_give_89
            · replace hR := if_p c14 hR
              refine lv_aload_n hx hb d_Model_give_67 rfl (lv_at hl 0 rfl) ?_
              refine rd_Model_627 hx hb hT hown hK hP d_Model_give_68 ?_
              refine lv_iload hx hb d_Model_give_71 (lv_at hl 4 rfl) ?_
              refine lv_ior hx hb d_Model_give_73 ?_
              refine lv_goto (tgt := 86) hx hb d_Model_give_74 (by decide) ?_
              refine wr_Model_627 hx hb hT hown hK hP hD hS d_Model_give_86 (fun T16 eT H locs hP hD hS => ?_)
              replace hR := stK_e eT hR
              clear eT
              obtain ⟨-, -, e3⟩ := re_e hR
              subst e3
              exact W.vret hx hb hr (fun t ht hW => ⟨⟨(), rfl, trivial, by rw [ht]; exact hP, va_K.moved hW.alike hK, hD⟩, hS.F ht⟩) hS.2.2 d_Model_give_89
  unfold rb_Model_give at hR
  refine lv_iconst (v := 1) hx hb d_Model_give_0 (by decide) ?_
  refine lv_iload_n hx hb d_Model_give_1 rfl (lv_at hl 1 rfl) ?_
  refine lv_ishl hx hb d_Model_give_2 ?_
  refine lv_topi (fun z1 e1 => ?_)
  replace hR := vK_e e1 hR
  refine lv_istore (lv' := [(5, .int z1), (0, .ref (ad 0)), (1, .int p1), (2, .int p2), (3, .int p3), (4, .int p4)]) hx hb d_Model_give_3 hl (by decide) rfl (fun ls hl => ?_)
  refine lv_aload_n hx hb d_Model_give_5 rfl (lv_at hl 1 rfl) ?_
  refine lv_iload hx hb d_Model_give_6 (lv_at hl 5 rfl) ?_
  refine lv_if_eq (tgt := 21) hx hb d_Model_give_8 (by decide) (fun c2 => ?_) (fun c2 => ?_)
  · replace hR := if_p c2 hR
    refine lv_aload_n hx hb d_Model_give_21 rfl (lv_at hl 1 rfl) ?_
    refine rd_Model_624 hx hb hT hown hK hP d_Model_give_22 ?_
    refine lv_iload hx hb d_Model_give_25 (lv_at hl 0 rfl) ?_
    refine lv_iconst (v := (-1)) hx hb d_Model_give_27 (by decide) ?_
    refine lv_ixor hx hb d_Model_give_28 ?_
    refine lv_iand hx hb d_Model_give_29 ?_
    have g := lb_30 T0 p2 p3 p4 z1 ((T0.1 81 0) &&& (z1 ^^^ (-1 : Int32))) hR
    rw [hG] at g
    exact g _ _ hP hD hS _ (lv_sub hl [1, 3, 4, 5, 0] rfl)
  · replace hR := if_n c2 hR
    refine lv_aload_n hx hb d_Model_give_11 rfl (lv_at hl 1 rfl) ?_
    refine rd_Model_624 hx hb hT hown hK hP d_Model_give_12 ?_
    refine lv_iload hx hb d_Model_give_15 (lv_at hl 0 rfl) ?_
    refine lv_ior hx hb d_Model_give_17 ?_
    refine lv_goto (tgt := 30) hx hb d_Model_give_18 (by decide) ?_
    have g := lb_30 T0 p2 p3 p4 z1 ((T0.1 81 0) ||| z1) hR
    rw [hG] at g
    exact g _ _ hP hD hS _ (lv_sub hl [1, 3, 4, 5, 0] rfl)
set_option maxHeartbeats 4000000 in
set_option maxRecDepth 100000 in
theorem sp_Model_checkSet (l : Launch) (dC : Nat → ClassId) (dI : Nat → Nat → Nat) (ea ev ad : Nat → Nat) (km : Nat → ClassId) (F : gF) (nf d : Nat) (h_Model_check : mt_Model_check l dC dI ea ev ad km F d) (h_Model_bad : mt_Model_bad l dC dI ea ev ad km F d) (h_Model_fail : mt_Model_fail l dC dI ea ev ad km F d) (h_Model_findVar : mt_Model_findVar l dC dI ea ev ad km F d) (h_Model_fit : mt_Model_fit l dC dI ea ev ad km F d) (h_Model_give : mt_Model_give l dC dI ea ev ad km F d) (T0 : gSt) (p1 : Int32) (r0 : Int32) (rl0 : Int64) (T9 : gSt) (hR : rb_Model_checkSet F nf T0 p1 = some (r0, rl0, T9)) : GMv l dC dI LM ad km ea ev y_Model_checkSet w_Model_checkSet (rmD (d + 1)) [.ref (ad 0), .int p1] T0 T9 := by
  intro sz
  refine Met.ofW (cc := b_Model_checkSet) (maxL := 5) (ret := none) (by decide) rfl ?_
  intro p e s m args below meth c s₁ B hml hv
  obtain ⟨rfl, hsz, hP, hK, hD0, hnw, henv⟩ := hv
  have hx := B.exec
  have hb := B.bytes
  have hr := B.returns
  have hT : ∀ w ∈ lw_good, w.before _ s = true := fun w h => atoms_spec (ws := w_Model_checkSet) B.pre w (List.mem_cons_of_mem _ h)
  have hown : s.vm.findClass R_Model = some m.cls := findClass_of_methodNamed B.named
  subst hsz
  have hD := hD0.self (sz := s.heap.size)
  clear hD0
  generalize hAe : va_A (gW LM ad km T0) s.heap.size = A at hD henv ⊢
  have hA : ∀ q : Nat, s.heap.size ≤ q → A q := fun q h => by rw [← hAe]; exact Or.inr h
  have hS : va_S A s.heap s.heap [] := va_S.rf
  have hl := lv_entry ([.ref (ad 0), .int p1]) (n := 5) (Nat.le_of_ble_eq_true rfl)
  rw [lg_entry_eq]
  generalize (lg_sl ([.ref (ad 0), .int p1]) ++ List.replicate (5 - (lg_sl ([.ref (ad 0), .int p1])).length) Slot.unset).toArray = ls at hl ⊢
  have hl : lv_has ls 5 [(0, .ref (ad 0)), (1, .int p1)] := hl
  obtain ⟨G, hG⟩ : ∃ G : Nat → List (Nat × Value) → List Value → gSt → Prop, G = (fun pc lv stk T => ∀ (H : Heap) (locs : List Loc), va_P (dC, dI) cls_all (gW LM ad km T) H → va_D A (gW LM ad km T) → va_S A s.heap H locs → ∀ (ls : Array Slot), lv_has ls 5 lv → W p l e (headSpec w_Model_checkSet (rmD (d + 1))).room s m ([.ref (ad 0), .int p1] : List Value).toArray below meth c H locs 0 0 (MQ below (va_Qv (fun (_ : Unit) => True) (fun _ t => gPost dC dI LM ad km T9 A t) A) ([.ref (ad 0), .int p1] : List Value).toArray s 0 0 A) (F0 m pc ls stk)) := ⟨_, rfl⟩
  have lb_261 : ∀ (T : gSt) (x1 : Int32) (x2 : Int32) (x4 : Int32), rj_Model_checkSet_261 F nf T x1 x2 x4 = some (r0, rl0, T9) → G 261 [(0, .ref (ad 0)), (1, .int x1), (2, .int x2), (4, .int x4)] [] T := by
    intro T x1 x2 x4 hR; unfold rj_Model_checkSet_261 at hR; rw [hG]; intro H locs hP hD hS ls hl
    refine lv_aload_n hx hb d_Model_checkSet_261 rfl (lv_at hl 0 rfl) ?_
    refine lv_iload_n hx hb d_Model_checkSet_262 rfl (lv_at hl 2 rfl) ?_
    refine lv_iload hx hb d_Model_checkSet_263 (lv_at hl 3 rfl) ?_
    refine lv_aload_n hx hb d_Model_checkSet_265 rfl (lv_at hl 0 rfl) ?_
    refine rd_Model_123 hx hb hT hown hK hP d_Model_checkSet_266 ?_
    refine lv_aload_n hx hb d_Model_checkSet_269 rfl (lv_at hl 0 rfl) ?_
    refine rd_Model_129 hx hb hT hown hK hP d_Model_checkSet_270 ?_
    refine lv_iload_n hx hb d_Model_checkSet_273 rfl (lv_at hl 1 rfl) ?_
    replace hR := gd_e hR
    obtain ⟨b49, hR⟩ := hR
    refine laM_38 hx hb hK hP b49 d_Model_checkSet_274 ?_
    replace hR := gd_e hR
    obtain ⟨b50, hR⟩ := hR
    refine laM_36 hx hb hK hP b50 d_Model_checkSet_275 ?_
    replace hR := bi_e hR
    obtain ⟨r51, l51, T51, hc51, hR⟩ := hR
    refine gcV_v (rest := []) ⟨hx, hb, hml, hown, hT⟩ (h_Model_fit _ _ _ _ _ _ _ hc51) (cwV 3 hT (gV ml_Model_688 im_Model_fit se_Model_fit ini_Model co_Model_fit) rfl rfl rfl pd_Model_fit ⟨rm_hi, rm_lo (Nat.le_of_ble_eq_true rfl)⟩) hK hP hD hS hA hnw henv (Nat.le_of_ble_eq_true rfl) rfl rfl hl.1 rfl (Nat.le_of_ble_eq_true rfl) d_Model_checkSet_276 ⟨Nat.le_refl _, Nat.le_refl _⟩ (fun H locs hP hD hS => ?_)
    clear hc51
    obtain ⟨-, -, e3⟩ := re_e hR
    subst e3
    exact W.vret hx hb hr (fun t ht hW => ⟨⟨(), rfl, trivial, by rw [ht]; exact hP, va_K.moved hW.alike hK, hD⟩, hS.F ht⟩) hS.2.2 d_Model_checkSet_279
  have lb_201 : ∀ (T : gSt) (x1 : Int32) (x2 : Int32) (x3 : Int32), rj_Model_checkSet_201 F nf T x1 x2 x3 = some (r0, rl0, T9) → G 201 [(0, .ref (ad 0)), (1, .int x1), (2, .int x2), (3, .int x3)] [] T := by
    intro T x1 x2 x3 hR; unfold rj_Model_checkSet_201 at hR; rw [hG]; intro H locs hP hD hS ls hl
    refine lv_aload_n hx hb d_Model_checkSet_201 rfl (lv_at hl 0 rfl) ?_
    refine lv_iload_n hx hb d_Model_checkSet_202 rfl (lv_at hl 3 rfl) ?_
    replace hR := bi_e hR
    obtain ⟨r38, l38, T38, hc38, hR⟩ := hR
    refine gcV_i (rest := []) ⟨hx, hb, hml, hown, hT⟩ (h_Model_check _ _ _ _ _ hc38) (cwV 1 hT (gV ml_Model_652 im_Model_check se_Model_check ini_Model co_Model_check) rfl rfl rfl pd_Model_check ⟨rm_hi, rm_lo (Nat.le_of_ble_eq_true rfl)⟩) hK hP hD hS hA hnw henv (Nat.le_of_ble_eq_true rfl) rfl rfl hl.1 rfl (Nat.le_of_ble_eq_true rfl) d_Model_checkSet_203 ⟨Nat.le_refl _, Nat.le_refl _⟩ (fun H locs hP hD hS => ?_)
    clear hc38
    refine lv_istore (lv' := [(4, .int r38), (0, .ref (ad 0)), (1, .int x1), (2, .int x2), (3, .int x3)]) hx hb d_Model_checkSet_206 hl (by decide) rfl (fun ls hl => ?_)
    refine lv_aload_n hx hb d_Model_checkSet_208 rfl (lv_at hl 1 rfl) ?_
    replace hR := bi_e hR
    obtain ⟨r39, l39, T39, hc39, hR⟩ := hR
    refine gcV_i (rest := []) ⟨hx, hb, hml, hown, hT⟩ (h_Model_bad _ _ _ _ hc39) (cwV 0 hT (gV ml_Model_385 im_Model_bad se_Model_bad ini_Model co_Model_bad) rfl rfl rfl pd_Model_bad ⟨rm_hi, rm_lo (Nat.le_of_ble_eq_true rfl)⟩) hK hP hD hS hA hnw henv (Nat.le_of_ble_eq_true rfl) rfl rfl hl.1 rfl (Nat.le_of_ble_eq_true rfl) d_Model_checkSet_209 ⟨Nat.le_refl _, Nat.le_refl _⟩ (fun H locs hP hD hS => ?_)
    clear hc39
    refine lv_if_ne (tgt := 261) hx hb d_Model_checkSet_212 (by decide) (fun c40 => ?_) (fun c40 => ?_)
    · replace hR := if_n c40 hR
      have g := lb_261 T39 x1 x2 r38 hR
      rw [hG] at g
      exact g _ _ hP hD hS _ (lv_sub hl [1, 2, 3, 0] rfl)
    · replace hR := if_p c40 hR
      refine lv_aload_n hx hb d_Model_checkSet_215 rfl (lv_at hl 1 rfl) ?_
      refine rd_Model_120 hx hb hT hown hK hP d_Model_checkSet_216 ?_
      refine lv_iload_n hx hb d_Model_checkSet_219 rfl (lv_at hl 4 rfl) ?_
      replace hR := gd_e hR
      obtain ⟨b41, hR⟩ := hR
      refine laM_35 hx hb hK hP b41 d_Model_checkSet_220 ?_
      refine lv_bipush (v := 14) hx hb d_Model_checkSet_221 (by decide) ?_
      refine lv_icmp_ne (tgt := 261) hx hb d_Model_checkSet_223 (by decide) (fun c42 => ?_) (fun c42 => ?_)
      · replace hR := if_n c42 hR
        have g := lb_261 T39 x1 x2 r38 hR
        rw [hG] at g
        exact g _ _ hP hD hS _ (lv_sub hl [1, 2, 3, 0] rfl)
      · replace hR := if_p c42 hR
        refine lv_aload_n hx hb d_Model_checkSet_226 rfl (lv_at hl 1 rfl) ?_
        refine rd_Model_17 hx hb hT hown hK hP d_Model_checkSet_227 ?_
        refine lv_aload_n hx hb d_Model_checkSet_230 rfl (lv_at hl 1 rfl) ?_
        refine rd_Model_165 hx hb hT hown hK hP d_Model_checkSet_231 ?_
        refine lv_aload_n hx hb d_Model_checkSet_234 rfl (lv_at hl 1 rfl) ?_
        refine rd_Model_150 hx hb hT hown hK hP d_Model_checkSet_235 ?_
        refine lv_aload_n hx hb d_Model_checkSet_238 rfl (lv_at hl 1 rfl) ?_
        refine rd_Model_126 hx hb hT hown hK hP d_Model_checkSet_239 ?_
        refine lv_iload_n hx hb d_Model_checkSet_242 rfl (lv_at hl 4 rfl) ?_
        replace hR := gd_e hR
        obtain ⟨b43, hR⟩ := hR
        refine laM_37 hx hb hK hP b43 d_Model_checkSet_243 ?_
        replace hR := gd_e hR
        obtain ⟨b44, hR⟩ := hR
        refine laM_45 hx hb hK hP b44 d_Model_checkSet_244 ?_
        replace hR := gd_e hR
        obtain ⟨b45, hR⟩ := hR
        refine laM_50 hx hb hK hP b45 d_Model_checkSet_245 ?_
        replace hR := gd_e hR
        obtain ⟨b46, hR⟩ := hR
        refine laM_1 hx hb hK hP b46 d_Model_checkSet_246 ?_
        refine lv_iconst (v := 1) hx hb d_Model_checkSet_247 (by decide) ?_
        refine lv_icmp_ne (tgt := 261) hx hb d_Model_checkSet_248 (by decide) (fun c47 => ?_) (fun c47 => ?_)
        · replace hR := if_n c47 hR
          have g := lb_261 T39 x1 x2 r38 hR
          rw [hG] at g
          exact g _ _ hP hD hS _ (lv_sub hl [1, 2, 3, 0] rfl)
        · replace hR := if_p c47 hR
          refine lv_aload_n hx hb d_Model_checkSet_251 rfl (lv_at hl 1 rfl) ?_
          refine lv_dup hx hb d_Model_checkSet_252 rfl ?_
          refine rd_Model_698 hx hb hT hown hK hP d_Model_checkSet_253 ?_
          refine lv_iconst (v := 1) hx hb d_Model_checkSet_256 (by decide) ?_
          refine lv_isub hx hb d_Model_checkSet_257 ?_
          refine wr_Model_698 hx hb hT hown hK hP hD hS d_Model_checkSet_258 (fun T48 eT H locs hP hD hS => ?_)
          replace hR := stK_e eT hR
          clear eT
          have g := lb_261 T48 x1 x2 r38 hR
          rw [hG] at g
          exact g _ _ hP hD hS _ (lv_sub hl [1, 2, 3, 0] rfl)
  have lb_64 : ∀ (T : gSt) (x1 : Int32) (x2 : Int32) (x3 : Int32) (x4 : Int32), rj_Model_checkSet_64 F nf T x1 x2 x3 x4 = some (r0, rl0, T9) → G 64 [(0, .ref (ad 0)), (1, .int x1), (2, .int x2), (3, .int x3), (4, .int x4)] [] T := by
    intro T x1 x2 x3 x4 hR; unfold rj_Model_checkSet_64 at hR; rw [hG]; intro H locs hP hD hS ls hl
    refine lv_aload_n hx hb d_Model_checkSet_64 rfl (lv_at hl 0 rfl) ?_
    replace hR := bi_e hR
    obtain ⟨r22, l22, T22, hc22, hR⟩ := hR
    refine gcV_i (rest := []) ⟨hx, hb, hml, hown, hT⟩ (h_Model_bad _ _ _ _ hc22) (cwV 0 hT (gV ml_Model_385 im_Model_bad se_Model_bad ini_Model co_Model_bad) rfl rfl rfl pd_Model_bad ⟨rm_hi, rm_lo (Nat.le_of_ble_eq_true rfl)⟩) hK hP hD hS hA hnw henv (Nat.le_of_ble_eq_true rfl) rfl rfl hl.1 rfl (Nat.le_of_ble_eq_true rfl) d_Model_checkSet_65 ⟨Nat.le_refl _, Nat.le_refl _⟩ (fun H locs hP hD hS => ?_)
    clear hc22
    refine lv_if_eq (tgt := 72) hx hb d_Model_checkSet_68 (by decide) (fun c23 => ?_) (fun c23 => ?_)
    · replace hR := if_p c23 hR
      refine lv_aload_n hx hb d_Model_checkSet_72 rfl (lv_at hl 0 rfl) ?_
      refine lv_iload_n hx hb d_Model_checkSet_73 rfl (lv_at hl 2 rfl) ?_
      refine lv_aload_n hx hb d_Model_checkSet_74 rfl (lv_at hl 0 rfl) ?_
      refine rd_Model_186 hx hb hT hown hK hP d_Model_checkSet_75 ?_
      refine lv_iload hx hb d_Model_checkSet_78 (lv_at hl 4 rfl) ?_
      replace hR := gd_e hR
      obtain ⟨b24, hR⟩ := hR
      refine laM_57 hx hb hK hP b24 d_Model_checkSet_80 ?_
      refine lv_aload_n hx hb d_Model_checkSet_81 rfl (lv_at hl 0 rfl) ?_
      refine rd_Model_123 hx hb hT hown hK hP d_Model_checkSet_82 ?_
      refine lv_aload_n hx hb d_Model_checkSet_85 rfl (lv_at hl 0 rfl) ?_
      refine rd_Model_129 hx hb hT hown hK hP d_Model_checkSet_86 ?_
      refine lv_iload_n hx hb d_Model_checkSet_89 rfl (lv_at hl 1 rfl) ?_
      replace hR := gd_e hR
      obtain ⟨b25, hR⟩ := hR
      refine laM_38 hx hb hK hP b25 d_Model_checkSet_90 ?_
      replace hR := gd_e hR
      obtain ⟨b26, hR⟩ := hR
      refine laM_36 hx hb hK hP b26 d_Model_checkSet_91 ?_
      replace hR := bi_e hR
      obtain ⟨r27, l27, T27, hc27, hR⟩ := hR
      refine gcV_v (rest := []) ⟨hx, hb, hml, hown, hT⟩ (h_Model_fit _ _ _ _ _ _ _ hc27) (cwV 3 hT (gV ml_Model_688 im_Model_fit se_Model_fit ini_Model co_Model_fit) rfl rfl rfl pd_Model_fit ⟨rm_hi, rm_lo (Nat.le_of_ble_eq_true rfl)⟩) hK hP hD hS hA hnw henv (Nat.le_of_ble_eq_true rfl) rfl rfl hl.1 rfl (Nat.le_of_ble_eq_true rfl) d_Model_checkSet_92 ⟨Nat.le_refl _, Nat.le_refl _⟩ (fun H locs hP hD hS => ?_)
      clear hc27
      refine lv_aload_n hx hb d_Model_checkSet_95 rfl (lv_at hl 0 rfl) ?_
      refine rd_Model_153 hx hb hT hown hK hP d_Model_checkSet_96 ?_
      refine lv_iload_n hx hb d_Model_checkSet_99 rfl (lv_at hl 3 rfl) ?_
      refine lv_aload_n hx hb d_Model_checkSet_100 rfl (lv_at hl 0 rfl) ?_
      refine rd_Model_183 hx hb hT hown hK hP d_Model_checkSet_101 ?_
      refine lv_iload hx hb d_Model_checkSet_104 (lv_at hl 4 rfl) ?_
      replace hR := gd_e hR
      obtain ⟨b28, hR⟩ := hR
      refine laM_56 hx hb hK hP b28 d_Model_checkSet_106 ?_
      replace hR := gd_e hR
      obtain ⟨b29, hR⟩ := hR
      refine saM_46 hx hb hK hP hD hS b29 d_Model_checkSet_107 (fun T29 eT H locs hP hD hS => ?_)
      replace hR := stK_e eT hR
      clear eT
      refine lv_aload_n hx hb d_Model_checkSet_108 rfl (lv_at hl 0 rfl) ?_
      refine rd_Model_150 hx hb hT hown hK hP d_Model_checkSet_109 ?_
      refine lv_iload_n hx hb d_Model_checkSet_112 rfl (lv_at hl 3 rfl) ?_
      refine lv_aload_n hx hb d_Model_checkSet_113 rfl (lv_at hl 0 rfl) ?_
      refine rd_Model_186 hx hb hT hown hK hP d_Model_checkSet_114 ?_
      refine lv_iload hx hb d_Model_checkSet_117 (lv_at hl 4 rfl) ?_
      replace hR := gd_e hR
      obtain ⟨b30, hR⟩ := hR
      refine laM_57 hx hb hK hP b30 d_Model_checkSet_119 ?_
      replace hR := gd_e hR
      obtain ⟨b31, hR⟩ := hR
      refine saM_45 hx hb hK hP hD hS b31 d_Model_checkSet_120 (fun T31 eT H locs hP hD hS => ?_)
      replace hR := stK_e eT hR
      clear eT
      refine lv_aload_n hx hb d_Model_checkSet_121 rfl (lv_at hl 0 rfl) ?_
      replace hR := bi_e hR
      obtain ⟨r32, l32, T32, hc32, hR⟩ := hR
      refine gcV_i (rest := []) ⟨hx, hb, hml, hown, hT⟩ (h_Model_bad _ _ _ _ hc32) (cwV 0 hT (gV ml_Model_385 im_Model_bad se_Model_bad ini_Model co_Model_bad) rfl rfl rfl pd_Model_bad ⟨rm_hi, rm_lo (Nat.le_of_ble_eq_true rfl)⟩) hK hP hD hS hA hnw henv (Nat.le_of_ble_eq_true rfl) rfl rfl hl.1 rfl (Nat.le_of_ble_eq_true rfl) d_Model_checkSet_122 ⟨Nat.le_refl _, Nat.le_refl _⟩ (fun H locs hP hD hS => ?_)
      clear hc32
      refine lv_if_ne (tgt := 155) hx hb d_Model_checkSet_125 (by decide) (fun c33 => ?_) (fun c33 => ?_)
      · replace hR := if_n c33 hR
        obtain ⟨-, -, e3⟩ := re_e hR
        subst e3
        exact W.vret hx hb hr (fun t ht hW => ⟨⟨(), rfl, trivial, by rw [ht]; exact hP, va_K.moved hW.alike hK, hD⟩, hS.F ht⟩) hS.2.2 d_Model_checkSet_155
      · replace hR := if_p c33 hR
        refine lv_aload_n hx hb d_Model_checkSet_128 rfl (lv_at hl 0 rfl) ?_
        refine rd_Model_630 hx hb hT hown hK hP d_Model_checkSet_129 ?_
        refine lv_if_eq (tgt := 155) hx hb d_Model_checkSet_132 (by decide) (fun c34 => ?_) (fun c34 => ?_)
        · replace hR := if_p c34 hR
          obtain ⟨-, -, e3⟩ := re_e hR
          subst e3
          exact W.vret hx hb hr (fun t ht hW => ⟨⟨(), rfl, trivial, by rw [ht]; exact hP, va_K.moved hW.alike hK, hD⟩, hS.F ht⟩) hS.2.2 d_Model_checkSet_155
        · replace hR := if_n c34 hR
          refine lv_aload_n hx hb d_Model_checkSet_135 rfl (lv_at hl 0 rfl) ?_
          refine lv_aload_n hx hb d_Model_checkSet_136 rfl (lv_at hl 0 rfl) ?_
          refine rd_Model_183 hx hb hT hown hK hP d_Model_checkSet_137 ?_
          refine lv_iload hx hb d_Model_checkSet_140 (lv_at hl 4 rfl) ?_
          replace hR := gd_e hR
          obtain ⟨b35, hR⟩ := hR
          refine laM_56 hx hb hK hP b35 d_Model_checkSet_142 ?_
          refine lv_aload_n hx hb d_Model_checkSet_143 rfl (lv_at hl 0 rfl) ?_
          refine rd_Model_186 hx hb hT hown hK hP d_Model_checkSet_144 ?_
          refine lv_iload hx hb d_Model_checkSet_147 (lv_at hl 4 rfl) ?_
          replace hR := gd_e hR
          obtain ⟨b36, hR⟩ := hR
          refine laM_57 hx hb hK hP b36 d_Model_checkSet_149 ?_
          refine lv_iload_n hx hb d_Model_checkSet_150 rfl (lv_at hl 2 rfl) ?_
          refine lv_iconst (v := 1) hx hb d_Model_checkSet_151 (by decide) ?_
          replace hR := bi_e hR
          obtain ⟨r37, l37, T37, hc37, hR⟩ := hR
          refine gcV_v (rest := []) ⟨hx, hb, hml, hown, hT⟩ (h_Model_give _ _ _ _ _ _ _ _ hc37) (cwV 4 hT (gV ml_Model_694 im_Model_give se_Model_give ini_Model co_Model_give) rfl rfl rfl pd_Model_give ⟨rm_hi, rm_lo (Nat.le_of_ble_eq_true rfl)⟩) hK hP hD hS hA hnw henv (Nat.le_of_ble_eq_true rfl) rfl rfl hl.1 rfl (Nat.le_of_ble_eq_true rfl) d_Model_checkSet_152 ⟨Nat.le_refl _, Nat.le_refl _⟩ (fun H locs hP hD hS => ?_)
          clear hc37
          obtain ⟨-, -, e3⟩ := re_e hR
          subst e3
          exact W.vret hx hb hr (fun t ht hW => ⟨⟨(), rfl, trivial, by rw [ht]; exact hP, va_K.moved hW.alike hK, hD⟩, hS.F ht⟩) hS.2.2 d_Model_checkSet_155
    · replace hR := if_n c23 hR
      obtain ⟨-, -, e3⟩ := re_e hR
      subst e3
      exact W.vret hx hb hr (fun t ht hW => ⟨⟨(), rfl, trivial, by rw [ht]; exact hP, va_K.moved hW.alike hK, hD⟩, hS.F ht⟩) hS.2.2 d_Model_checkSet_71
  unfold rb_Model_checkSet at hR
  refine lv_aload_n hx hb d_Model_checkSet_0 rfl (lv_at hl 0 rfl) ?_
  refine lv_aload_n hx hb d_Model_checkSet_1 rfl (lv_at hl 0 rfl) ?_
  refine rd_Model_129 hx hb hT hown hK hP d_Model_checkSet_2 ?_
  refine lv_iload_n hx hb d_Model_checkSet_5 rfl (lv_at hl 1 rfl) ?_
  replace hR := gd_e hR
  obtain ⟨b1, hR⟩ := hR
  refine laM_38 hx hb hK hP b1 d_Model_checkSet_6 ?_
  replace hR := bi_e hR
  obtain ⟨r2, l2, T2, hc2, hR⟩ := hR
  refine gcV_i (rest := []) ⟨hx, hb, hml, hown, hT⟩ (h_Model_check _ _ _ _ _ hc2) (cwV 1 hT (gV ml_Model_652 im_Model_check se_Model_check ini_Model co_Model_check) rfl rfl rfl pd_Model_check ⟨rm_hi, rm_lo (Nat.le_of_ble_eq_true rfl)⟩) hK hP hD hS hA hnw henv (Nat.le_of_ble_eq_true rfl) rfl rfl hl.1 rfl (Nat.le_of_ble_eq_true rfl) d_Model_checkSet_7 ⟨Nat.le_refl _, Nat.le_refl _⟩ (fun H locs hP hD hS => ?_)
  clear hc2
  refine lv_istore_n (lv' := [(2, .int r2), (0, .ref (ad 0)), (1, .int p1)]) hx hb d_Model_checkSet_10 rfl hl (by decide) rfl (fun ls hl => ?_)
  refine lv_aload_n hx hb d_Model_checkSet_11 rfl (lv_at hl 1 rfl) ?_
  replace hR := bi_e hR
  obtain ⟨r3, l3, T3, hc3, hR⟩ := hR
  refine gcV_i (rest := []) ⟨hx, hb, hml, hown, hT⟩ (h_Model_bad _ _ _ _ hc3) (cwV 0 hT (gV ml_Model_385 im_Model_bad se_Model_bad ini_Model co_Model_bad) rfl rfl rfl pd_Model_bad ⟨rm_hi, rm_lo (Nat.le_of_ble_eq_true rfl)⟩) hK hP hD hS hA hnw henv (Nat.le_of_ble_eq_true rfl) rfl rfl hl.1 rfl (Nat.le_of_ble_eq_true rfl) d_Model_checkSet_12 ⟨Nat.le_refl _, Nat.le_refl _⟩ (fun H locs hP hD hS => ?_)
  clear hc3
  refine lv_if_eq (tgt := 19) hx hb d_Model_checkSet_15 (by decide) (fun c4 => ?_) (fun c4 => ?_)
  · replace hR := if_p c4 hR
    refine lv_aload_n hx hb d_Model_checkSet_19 rfl (lv_at hl 1 rfl) ?_
    refine rd_Model_126 hx hb hT hown hK hP d_Model_checkSet_20 ?_
    refine lv_iload_n hx hb d_Model_checkSet_23 rfl (lv_at hl 2 rfl) ?_
    replace hR := gd_e hR
    obtain ⟨b5, hR⟩ := hR
    refine laM_37 hx hb hK hP b5 d_Model_checkSet_24 ?_
    refine lv_topi (fun z6 e6 => ?_)
    replace hR := vK_e e6 hR
    refine lv_istore_n (lv' := [(3, .int z6), (2, .int r2), (0, .ref (ad 0)), (1, .int p1)]) hx hb d_Model_checkSet_25 rfl hl (by decide) rfl (fun ls hl => ?_)
    refine lv_aload_n hx hb d_Model_checkSet_26 rfl (lv_at hl 2 rfl) ?_
    refine rd_Model_120 hx hb hT hown hK hP d_Model_checkSet_27 ?_
    refine lv_iload_n hx hb d_Model_checkSet_30 rfl (lv_at hl 0 rfl) ?_
    replace hR := gd_e hR
    obtain ⟨b7, hR⟩ := hR
    refine laM_35 hx hb hK hP b7 d_Model_checkSet_31 ?_
    refine lv_iconst (v := 4) hx hb d_Model_checkSet_32 (by decide) ?_
    refine lv_icmp_ne (tgt := 156) hx hb d_Model_checkSet_33 (by decide) (fun c8 => ?_) (fun c8 => ?_)
    · replace hR := if_n c8 hR
      refine lv_aload_n hx hb d_Model_checkSet_156 rfl (lv_at hl 2 rfl) ?_
      refine rd_Model_120 hx hb hT hown hK hP d_Model_checkSet_157 ?_
      refine lv_iload_n hx hb d_Model_checkSet_160 rfl (lv_at hl 0 rfl) ?_
      replace hR := gd_e hR
      obtain ⟨b9, hR⟩ := hR
      refine laM_35 hx hb hK hP b9 d_Model_checkSet_161 ?_
      refine lv_bipush (v := 14) hx hb d_Model_checkSet_162 (by decide) ?_
      refine lv_icmp_eq (tgt := 201) hx hb d_Model_checkSet_164 (by decide) (fun c10 => ?_) (fun c10 => ?_)
      · replace hR := if_p c10 hR
        have g := lb_201 T3 p1 r2 z6 hR
        rw [hG] at g
        exact g _ _ hP hD hS _ (lv_sub hl [2, 3, 1, 0] rfl)
      · replace hR := if_n c10 hR
        refine lv_aload_n hx hb d_Model_checkSet_167 rfl (lv_at hl 2 rfl) ?_
        refine rd_Model_120 hx hb hT hown hK hP d_Model_checkSet_168 ?_
        refine lv_iload_n hx hb d_Model_checkSet_171 rfl (lv_at hl 0 rfl) ?_
        replace hR := gd_e hR
        obtain ⟨b11, hR⟩ := hR
        refine laM_35 hx hb hK hP b11 d_Model_checkSet_172 ?_
        refine lv_bipush (v := 15) hx hb d_Model_checkSet_173 (by decide) ?_
        refine lv_icmp_eq (tgt := 201) hx hb d_Model_checkSet_175 (by decide) (fun c12 => ?_) (fun c12 => ?_)
        · replace hR := if_p c12 hR
          have g := lb_201 T3 p1 r2 z6 hR
          rw [hG] at g
          exact g _ _ hP hD hS _ (lv_sub hl [2, 3, 1, 0] rfl)
        · replace hR := if_n c12 hR
          refine lv_aload_n hx hb d_Model_checkSet_178 rfl (lv_at hl 2 rfl) ?_
          refine rd_Model_120 hx hb hT hown hK hP d_Model_checkSet_179 ?_
          refine lv_iload_n hx hb d_Model_checkSet_182 rfl (lv_at hl 0 rfl) ?_
          replace hR := gd_e hR
          obtain ⟨b13, hR⟩ := hR
          refine laM_35 hx hb hK hP b13 d_Model_checkSet_183 ?_
          refine lv_bipush (v := 16) hx hb d_Model_checkSet_184 (by decide) ?_
          refine lv_icmp_eq (tgt := 201) hx hb d_Model_checkSet_186 (by decide) (fun c14 => ?_) (fun c14 => ?_)
          · replace hR := if_p c14 hR
            have g := lb_201 T3 p1 r2 z6 hR
            rw [hG] at g
            exact g _ _ hP hD hS _ (lv_sub hl [2, 3, 1, 0] rfl)
          · replace hR := if_n c14 hR
            refine lv_aload_n hx hb d_Model_checkSet_189 rfl (lv_at hl 2 rfl) ?_
            refine lv_iconst (v := 4) hx hb d_Model_checkSet_190 (by decide) ?_
            refine lv_aload_n hx hb d_Model_checkSet_191 rfl (lv_at hl 2 rfl) ?_
            refine rd_Model_123 hx hb hT hown hK hP d_Model_checkSet_192 ?_
            refine lv_iload_n hx hb d_Model_checkSet_195 rfl (lv_at hl 0 rfl) ?_
            replace hR := gd_e hR
            obtain ⟨b15, hR⟩ := hR
            refine laM_36 hx hb hK hP b15 d_Model_checkSet_196 ?_
            replace hR := bi_e hR
            obtain ⟨r16, l16, T16, hc16, hR⟩ := hR
            refine gcV_v (rest := []) ⟨hx, hb, hml, hown, hT⟩ (h_Model_fail _ _ _ _ _ _ hc16) (cwV 2 hT (gV ml_Model_381 im_Model_fail se_Model_fail ini_Model co_Model_fail) rfl rfl rfl pd_Model_fail ⟨rm_hi, rm_lo (Nat.le_of_ble_eq_true rfl)⟩) hK hP hD hS hA hnw henv (Nat.le_of_ble_eq_true rfl) rfl rfl hl.1 rfl (Nat.le_of_ble_eq_true rfl) d_Model_checkSet_197 ⟨Nat.le_refl _, Nat.le_refl _⟩ (fun H locs hP hD hS => ?_)
            clear hc16
            obtain ⟨-, -, e3⟩ := re_e hR
            subst e3
            exact W.vret hx hb hr (fun t ht hW => ⟨⟨(), rfl, trivial, by rw [ht]; exact hP, va_K.moved hW.alike hK, hD⟩, hS.F ht⟩) hS.2.2 d_Model_checkSet_200
    · replace hR := if_p c8 hR
      refine lv_aload_n hx hb d_Model_checkSet_36 rfl (lv_at hl 2 rfl) ?_
      refine lv_aload_n hx hb d_Model_checkSet_37 rfl (lv_at hl 2 rfl) ?_
      refine rd_Model_138 hx hb hT hown hK hP d_Model_checkSet_38 ?_
      refine lv_iload_n hx hb d_Model_checkSet_41 rfl (lv_at hl 0 rfl) ?_
      replace hR := gd_e hR
      obtain ⟨b17, hR⟩ := hR
      refine laM_41 hx hb hK hP b17 d_Model_checkSet_42 ?_
      replace hR := bi_e hR
      obtain ⟨r18, l18, T18, hc18, hR⟩ := hR
      refine gcV_i (rest := []) ⟨hx, hb, hml, hown, hT⟩ (h_Model_findVar _ _ _ _ _ hc18) (cwV 1 hT (gV ml_Model_691 im_Model_findVar se_Model_findVar ini_Model co_Model_findVar) rfl rfl rfl pd_Model_findVar ⟨rm_hi, rm_lo (Nat.le_of_ble_eq_true rfl)⟩) hK hP hD hS hA hnw henv (Nat.le_of_ble_eq_true rfl) rfl rfl hl.1 rfl (Nat.le_of_ble_eq_true rfl) d_Model_checkSet_43 ⟨Nat.le_refl _, Nat.le_refl _⟩ (fun H locs hP hD hS => ?_)
      clear hc18
      refine lv_istore (lv' := [(4, .int r18), (3, .int z6), (2, .int r2), (0, .ref (ad 0)), (1, .int p1)]) hx hb d_Model_checkSet_46 hl (by decide) rfl (fun ls hl => ?_)
      refine lv_iload hx hb d_Model_checkSet_48 (lv_at hl 0 rfl) ?_
      refine lv_if_ge (tgt := 64) hx hb d_Model_checkSet_50 (by decide) (fun c19 => ?_) (fun c19 => ?_)
      · replace hR := if_p c19 hR
        have g := lb_64 T18 p1 r2 z6 r18 hR
        rw [hG] at g
        exact g _ _ hP hD hS _ (lv_sub hl [3, 4, 2, 1, 0] rfl)
      · replace hR := if_n c19 hR
        refine lv_aload_n hx hb d_Model_checkSet_53 rfl (lv_at hl 3 rfl) ?_
        refine lv_iconst (v := 3) hx hb d_Model_checkSet_54 (by decide) ?_
        refine lv_aload_n hx hb d_Model_checkSet_55 rfl (lv_at hl 3 rfl) ?_
        refine rd_Model_123 hx hb hT hown hK hP d_Model_checkSet_56 ?_
        refine lv_iload_n hx hb d_Model_checkSet_59 rfl (lv_at hl 1 rfl) ?_
        replace hR := gd_e hR
        obtain ⟨b20, hR⟩ := hR
        refine laM_36 hx hb hK hP b20 d_Model_checkSet_60 ?_
        replace hR := bi_e hR
        obtain ⟨r21, l21, T21, hc21, hR⟩ := hR
        refine gcV_v (rest := []) ⟨hx, hb, hml, hown, hT⟩ (h_Model_fail _ _ _ _ _ _ hc21) (cwV 2 hT (gV ml_Model_381 im_Model_fail se_Model_fail ini_Model co_Model_fail) rfl rfl rfl pd_Model_fail ⟨rm_hi, rm_lo (Nat.le_of_ble_eq_true rfl)⟩) hK hP hD hS hA hnw henv (Nat.le_of_ble_eq_true rfl) rfl rfl hl.1 rfl (Nat.le_of_ble_eq_true rfl) d_Model_checkSet_61 ⟨Nat.le_refl _, Nat.le_refl _⟩ (fun H locs hP hD hS => ?_)
        clear hc21
        have g := lb_64 T21 p1 r2 z6 r18 hR
        rw [hG] at g
        exact g _ _ hP hD hS _ (lv_sub hl [3, 4, 2, 1, 0] rfl)
  · replace hR := if_n c4 hR
    obtain ⟨-, -, e3⟩ := re_e hR
    subst e3
    exact W.vret hx hb hr (fun t ht hW => ⟨⟨(), rfl, trivial, by rw [ht]; exact hP, va_K.moved hW.alike hK, hD⟩, hS.F ht⟩) hS.2.2 d_Model_checkSet_18
set_option maxHeartbeats 4000000 in
set_option maxRecDepth 100000 in
theorem sp_Model_asked (l : Launch) (dC : Nat → ClassId) (dI : Nat → Nat → Nat) (ea ev ad : Nat → Nat) (km : Nat → ClassId) (F : gF) (nf d : Nat) (h_Model_findVar : mt_Model_findVar l dC dI ea ev ad km F d) (T0 : gSt) (p1 : Int32) (p2 : Int32) (r0 : Int32) (rl0 : Int64) (T9 : gSt) (hR : rb_Model_asked F nf T0 p1 p2 = some (r0, rl0, T9)) : GMi l dC dI LM ad km ea ev y_Model_asked w_Model_asked (rmD (d + 1)) [.ref (ad 0), .int p1, .int p2] T0 r0 T9 := by
  intro sz
  refine Met.ofW (cc := b_Model_asked) (maxL := 5) (ret := (some .int)) (by decide) rfl ?_
  intro p e s m args below meth c s₁ B hml hv
  obtain ⟨rfl, hsz, hP, hK, hD0, hnw, henv⟩ := hv
  have hx := B.exec
  have hb := B.bytes
  have hr := B.returns
  have hT : ∀ w ∈ lw_good, w.before _ s = true := fun w h => atoms_spec (ws := w_Model_asked) B.pre w (List.mem_cons_of_mem _ h)
  have hown : s.vm.findClass R_Model = some m.cls := findClass_of_methodNamed B.named
  subst hsz
  have hD := hD0.self (sz := s.heap.size)
  clear hD0
  generalize hAe : va_A (gW LM ad km T0) s.heap.size = A at hD henv ⊢
  have hA : ∀ q : Nat, s.heap.size ≤ q → A q := fun q h => by rw [← hAe]; exact Or.inr h
  have hS : va_S A s.heap s.heap [] := va_S.rf
  have hl := lv_entry ([.ref (ad 0), .int p1, .int p2]) (n := 5) (Nat.le_of_ble_eq_true rfl)
  rw [lg_entry_eq]
  generalize (lg_sl ([.ref (ad 0), .int p1, .int p2]) ++ List.replicate (5 - (lg_sl ([.ref (ad 0), .int p1, .int p2])).length) Slot.unset).toArray = ls at hl ⊢
  have hl : lv_has ls 5 [(0, .ref (ad 0)), (1, .int p1), (2, .int p2)] := hl
  obtain ⟨G, hG⟩ : ∃ G : Nat → List (Nat × Value) → List Value → gSt → Prop, G = (fun pc lv stk T => ∀ (H : Heap) (locs : List Loc), va_P (dC, dI) cls_all (gW LM ad km T) H → va_D A (gW LM ad km T) → va_S A s.heap H locs → ∀ (ls : Array Slot), lv_has ls 5 lv → W p l e (headSpec w_Model_asked (rmD (d + 1))).room s m ([.ref (ad 0), .int p1, .int p2] : List Value).toArray below meth c H locs 0 0 (MQ below (va_Qi (fun (z : Int32) (_ : Unit) => z = r0) (fun _ t => gPost dC dI LM ad km T9 A t) A) ([.ref (ad 0), .int p1, .int p2] : List Value).toArray s 0 0 A) (F0 m pc ls stk)) := ⟨_, rfl⟩
  have lb_68 : ∀ (T : gSt) (x3 : Int32), rj_Model_asked_68 F nf T x3 = some (r0, rl0, T9) → G 68 [(0, .ref (ad 0)), (3, .int x3)] [] T := by
    intro T x3 hR; unfold rj_Model_asked_68 at hR; rw [hG]; intro H locs hP hD hS ls hl
    refine lv_aload_n hx hb d_Model_asked_68 rfl (lv_at hl 0 rfl) ?_
    refine rd_Model_120 hx hb hT hown hK hP d_Model_asked_69 ?_
    refine lv_iload_n hx hb d_Model_asked_72 rfl (lv_at hl 1 rfl) ?_
    replace hR := gd_e hR
    obtain ⟨b18, hR⟩ := hR
    refine laM_35 hx hb hK hP b18 d_Model_asked_73 ?_
    refine lv_iconst (v := 4) hx hb d_Model_asked_74 (by decide) ?_
    refine lv_icmp_eq (tgt := 80) hx hb d_Model_asked_75 (by decide) (fun c19 => ?_) (fun c19 => ?_)
    · replace hR := if_p c19 hR
      refine lv_aload_n hx hb d_Model_asked_80 rfl (lv_at hl 0 rfl) ?_
      refine lv_aload_n hx hb d_Model_asked_81 rfl (lv_at hl 0 rfl) ?_
      refine rd_Model_138 hx hb hT hown hK hP d_Model_asked_82 ?_
      refine lv_iload_n hx hb d_Model_asked_85 rfl (lv_at hl 1 rfl) ?_
      replace hR := gd_e hR
      obtain ⟨b20, hR⟩ := hR
      refine laM_41 hx hb hK hP b20 d_Model_asked_86 ?_
      replace hR := bi_e hR
      obtain ⟨r21, l21, T21, hc21, hR⟩ := hR
      refine gcV_i (rest := []) ⟨hx, hb, hml, hown, hT⟩ (h_Model_findVar _ _ _ _ _ hc21) (cwV 1 hT (gV ml_Model_691 im_Model_findVar se_Model_findVar ini_Model co_Model_findVar) rfl rfl rfl pd_Model_findVar ⟨rm_hi, rm_lo (Nat.le_of_ble_eq_true rfl)⟩) hK hP hD hS hA hnw henv (Nat.le_of_ble_eq_true rfl) rfl rfl hl.1 rfl (Nat.le_of_ble_eq_true rfl) d_Model_asked_87 ⟨Nat.le_refl _, Nat.le_refl _⟩ (fun H locs hP hD hS => ?_)
      clear hc21
      refine lv_istore (lv' := [(4, .int r21), (0, .ref (ad 0)), (3, .int x3)]) hx hb d_Model_asked_90 hl (by decide) rfl (fun ls hl => ?_)
      refine lv_iload hx hb d_Model_asked_92 (lv_at hl 0 rfl) ?_
      refine lv_if_lt (tgt := 133) hx hb d_Model_asked_94 (by decide) (fun c22 => ?_) (fun c22 => ?_)
      · replace hR := if_p c22 hR
        refine lv_iconst (v := (-1)) hx hb d_Model_asked_133 (by decide) ?_
        obtain ⟨e1, -, e3⟩ := re_e hR
        subst e1; subst e3
        exact W.iret (v := (-1 : Int32)) hx hb hr (fun t ht hW => ⟨⟨(-1 : Int32), (), rfl, rfl, by rw [ht]; exact hP, va_K.moved hW.alike hK, hD⟩, hS.F ht⟩) hS.2.2 d_Model_asked_134
      · replace hR := if_n c22 hR
        refine lv_aload_n hx hb d_Model_asked_97 rfl (lv_at hl 1 rfl) ?_
        refine rd_Model_186 hx hb hT hown hK hP d_Model_asked_98 ?_
        refine lv_iload hx hb d_Model_asked_101 (lv_at hl 0 rfl) ?_
        replace hR := gd_e hR
        obtain ⟨b24, hR⟩ := hR
        refine laM_57 hx hb hK hP b24 d_Model_asked_103 ?_
        refine lv_if_le (tgt := 133) hx hb d_Model_asked_104 (by decide) (fun c25 => ?_) (fun c25 => ?_)
        · replace hR := if_p c25 hR
          refine lv_iconst (v := (-1)) hx hb d_Model_asked_133 (by decide) ?_
          obtain ⟨e1, -, e3⟩ := re_e hR
          subst e1; subst e3
          exact W.iret (v := (-1 : Int32)) hx hb hr (fun t ht hW => ⟨⟨(-1 : Int32), (), rfl, rfl, by rw [ht]; exact hP, va_K.moved hW.alike hK, hD⟩, hS.F ht⟩) hS.2.2 d_Model_asked_134
        · replace hR := if_n c25 hR
          refine lv_aload_n hx hb d_Model_asked_107 rfl (lv_at hl 1 rfl) ?_
          refine rd_Model_156 hx hb hT hown hK hP d_Model_asked_108 ?_
          refine lv_aload_n hx hb d_Model_asked_111 rfl (lv_at hl 1 rfl) ?_
          refine rd_Model_186 hx hb hT hown hK hP d_Model_asked_112 ?_
          refine lv_iload hx hb d_Model_asked_115 (lv_at hl 0 rfl) ?_
          replace hR := gd_e hR
          obtain ⟨b27, hR⟩ := hR
          refine laM_57 hx hb hK hP b27 d_Model_asked_117 ?_
          replace hR := gd_e hR
          obtain ⟨b28, hR⟩ := hR
          refine laM_47 hx hb hK hP b28 d_Model_asked_118 ?_
          refine lv_iconst (v := 2) hx hb d_Model_asked_119 (by decide) ?_
          refine lv_icmp_ne (tgt := 133) hx hb d_Model_asked_120 (by decide) (fun c29 => ?_) (fun c29 => ?_)
          · replace hR := if_n c29 hR
            refine lv_iconst (v := (-1)) hx hb d_Model_asked_133 (by decide) ?_
            obtain ⟨e1, -, e3⟩ := re_e hR
            subst e1; subst e3
            exact W.iret (v := (-1 : Int32)) hx hb hr (fun t ht hW => ⟨⟨(-1 : Int32), (), rfl, rfl, by rw [ht]; exact hP, va_K.moved hW.alike hK, hD⟩, hS.F ht⟩) hS.2.2 d_Model_asked_134
          · replace hR := if_p c29 hR
            refine lv_aload_n hx hb d_Model_asked_123 rfl (lv_at hl 1 rfl) ?_
            refine rd_Model_183 hx hb hT hown hK hP d_Model_asked_124 ?_
            refine lv_iload hx hb d_Model_asked_127 (lv_at hl 0 rfl) ?_
            replace hR := gd_e hR
            obtain ⟨b31, hR⟩ := hR
            refine laM_56 hx hb hK hP b31 d_Model_asked_129 ?_
            refine lv_goto (tgt := 134) hx hb d_Model_asked_130 (by decide) ?_
            obtain ⟨e1, -, e3⟩ := re_e hR
            subst e1; subst e3
            exact W.iret (v := T21.1 79 r21.toNatClampNeg) hx hb hr (fun t ht hW => ⟨⟨T21.1 79 r21.toNatClampNeg, (), rfl, rfl, by rw [ht]; exact hP, va_K.moved hW.alike hK, hD⟩, hS.F ht⟩) hS.2.2 d_Model_asked_134
    · replace hR := if_n c19 hR
      refine lv_iconst (v := (-1)) hx hb d_Model_asked_78 (by decide) ?_
      obtain ⟨e1, -, e3⟩ := re_e hR
      subst e1; subst e3
      exact W.iret (v := (-1 : Int32)) hx hb hr (fun t ht hW => ⟨⟨(-1 : Int32), (), rfl, rfl, by rw [ht]; exact hP, va_K.moved hW.alike hK, hD⟩, hS.F ht⟩) hS.2.2 d_Model_asked_79
  unfold rb_Model_asked at hR
  refine lv_iload_n hx hb d_Model_asked_0 rfl (lv_at hl 1 rfl) ?_
  refine lv_istore_n (lv' := [(3, .int p1), (0, .ref (ad 0)), (1, .int p1), (2, .int p2)]) hx hb d_Model_asked_1 rfl hl (by decide) rfl (fun ls hl => ?_)
  refine lv_iload_n hx hb d_Model_asked_2 rfl (lv_at hl 3 rfl) ?_
  refine lv_if_eq (tgt := 68) hx hb d_Model_asked_3 (by decide) (fun c1 => ?_) (fun c1 => ?_)
  · replace hR := if_p c1 hR
    have g := lb_68 T0 p1 hR
    rw [hG] at g
    exact g _ _ hP hD hS _ (lv_sub hl [1, 0] rfl)
  · replace hR := if_n c1 hR
    refine lv_aload_n hx hb d_Model_asked_6 rfl (lv_at hl 1 rfl) ?_
    refine rd_Model_120 hx hb hT hown hK hP d_Model_asked_7 ?_
    refine lv_iload_n hx hb d_Model_asked_10 rfl (lv_at hl 2 rfl) ?_
    replace hR := gd_e hR
    obtain ⟨b2, hR⟩ := hR
    refine laM_35 hx hb hK hP b2 d_Model_asked_11 ?_
    refine lv_bipush (v := 13) hx hb d_Model_asked_12 (by decide) ?_
    refine lv_icmp_ne (tgt := 59) hx hb d_Model_asked_14 (by decide) (fun c3 => ?_) (fun c3 => ?_)
    · replace hR := if_n c3 hR
      refine lv_iconst (v := (-1)) hx hb d_Model_asked_59 (by decide) ?_
      obtain ⟨e1, -, e3⟩ := re_e hR
      subst e1; subst e3
      exact W.iret (v := (-1 : Int32)) hx hb hr (fun t ht hW => ⟨⟨(-1 : Int32), (), rfl, rfl, by rw [ht]; exact hP, va_K.moved hW.alike hK, hD⟩, hS.F ht⟩) hS.2.2 d_Model_asked_60
    · replace hR := if_p c3 hR
      refine lv_aload_n hx hb d_Model_asked_17 rfl (lv_at hl 1 rfl) ?_
      refine rd_Model_132 hx hb hT hown hK hP d_Model_asked_18 ?_
      refine lv_iload_n hx hb d_Model_asked_21 rfl (lv_at hl 2 rfl) ?_
      replace hR := gd_e hR
      obtain ⟨b5, hR⟩ := hR
      refine laM_39 hx hb hK hP b5 d_Model_asked_22 ?_
      refine lv_sipush (v := 256) hx hb d_Model_asked_23 (by decide) ?_
      refine lv_icmp_ne (tgt := 59) hx hb d_Model_asked_26 (by decide) (fun c6 => ?_) (fun c6 => ?_)
      · replace hR := if_n c6 hR
        refine lv_iconst (v := (-1)) hx hb d_Model_asked_59 (by decide) ?_
        obtain ⟨e1, -, e3⟩ := re_e hR
        subst e1; subst e3
        exact W.iret (v := (-1 : Int32)) hx hb hr (fun t ht hW => ⟨⟨(-1 : Int32), (), rfl, rfl, by rw [ht]; exact hP, va_K.moved hW.alike hK, hD⟩, hS.F ht⟩) hS.2.2 d_Model_asked_60
      · replace hR := if_p c6 hR
        refine lv_aload_n hx hb d_Model_asked_29 rfl (lv_at hl 1 rfl) ?_
        refine rd_Model_120 hx hb hT hown hK hP d_Model_asked_30 ?_
        refine lv_aload_n hx hb d_Model_asked_33 rfl (lv_at hl 1 rfl) ?_
        refine rd_Model_126 hx hb hT hown hK hP d_Model_asked_34 ?_
        refine lv_iload_n hx hb d_Model_asked_37 rfl (lv_at hl 2 rfl) ?_
        replace hR := gd_e hR
        obtain ⟨b8, hR⟩ := hR
        refine laM_37 hx hb hK hP b8 d_Model_asked_38 ?_
        replace hR := gd_e hR
        obtain ⟨b9, hR⟩ := hR
        refine laM_35 hx hb hK hP b9 d_Model_asked_39 ?_
        refine lv_iconst (v := 4) hx hb d_Model_asked_40 (by decide) ?_
        refine lv_icmp_ne (tgt := 59) hx hb d_Model_asked_41 (by decide) (fun c10 => ?_) (fun c10 => ?_)
        · replace hR := if_n c10 hR
          refine lv_iconst (v := (-1)) hx hb d_Model_asked_59 (by decide) ?_
          obtain ⟨e1, -, e3⟩ := re_e hR
          subst e1; subst e3
          exact W.iret (v := (-1 : Int32)) hx hb hr (fun t ht hW => ⟨⟨(-1 : Int32), (), rfl, rfl, by rw [ht]; exact hP, va_K.moved hW.alike hK, hD⟩, hS.F ht⟩) hS.2.2 d_Model_asked_60
        · replace hR := if_p c10 hR
          refine lv_aload_n hx hb d_Model_asked_44 rfl (lv_at hl 1 rfl) ?_
          refine rd_Model_120 hx hb hT hown hK hP d_Model_asked_45 ?_
          refine lv_aload_n hx hb d_Model_asked_48 rfl (lv_at hl 1 rfl) ?_
          refine rd_Model_129 hx hb hT hown hK hP d_Model_asked_49 ?_
          refine lv_iload_n hx hb d_Model_asked_52 rfl (lv_at hl 2 rfl) ?_
          replace hR := gd_e hR
          obtain ⟨b12, hR⟩ := hR
          refine laM_38 hx hb hK hP b12 d_Model_asked_53 ?_
          replace hR := gd_e hR
          obtain ⟨b13, hR⟩ := hR
          refine laM_35 hx hb hK hP b13 d_Model_asked_54 ?_
          refine lv_iconst (v := 1) hx hb d_Model_asked_55 (by decide) ?_
          refine lv_icmp_eq (tgt := 61) hx hb d_Model_asked_56 (by decide) (fun c14 => ?_) (fun c14 => ?_)
          · replace hR := if_p c14 hR
            refine lv_aload_n hx hb d_Model_asked_61 rfl (lv_at hl 1 rfl) ?_
            refine rd_Model_126 hx hb hT hown hK hP d_Model_asked_62 ?_
            refine lv_iload_n hx hb d_Model_asked_65 rfl (lv_at hl 2 rfl) ?_
            replace hR := gd_e hR
            obtain ⟨b15, hR⟩ := hR
            refine laM_37 hx hb hK hP b15 d_Model_asked_66 ?_
            refine lv_topi (fun z16 e16 => ?_)
            replace hR := vK_e e16 hR
            refine lv_istore_n (lv' := [(3, .int z16), (0, .ref (ad 0)), (1, .int p1), (2, .int p2)]) hx hb d_Model_asked_67 rfl hl (by decide) rfl (fun ls hl => ?_)
            have g := lb_68 T0 z16 hR
            rw [hG] at g
            exact g _ _ hP hD hS _ (lv_sub hl [1, 0] rfl)
          · replace hR := if_n c14 hR
            refine lv_iconst (v := (-1)) hx hb d_Model_asked_59 (by decide) ?_
            obtain ⟨e1, -, e3⟩ := re_e hR
            subst e1; subst e3
            exact W.iret (v := (-1 : Int32)) hx hb hr (fun t ht hW => ⟨⟨(-1 : Int32), (), rfl, rfl, by rw [ht]; exact hP, va_K.moved hW.alike hK, hD⟩, hS.F ht⟩) hS.2.2 d_Model_asked_60
set_option maxHeartbeats 4000000 in
set_option maxRecDepth 100000 in
theorem sp_Model_knowing (l : Launch) (dC : Nat → ClassId) (dI : Nat → Nat → Nat) (ea ev ad : Nat → Nat) (km : Nat → ClassId) (F : gF) (nf d : Nat) (T0 : gSt) (p1 : Int32) (r0 : Int32) (rl0 : Int64) (T9 : gSt) (hR : rb_Model_knowing F nf T0 p1 = some (r0, rl0, T9)) : GMv l dC dI LM ad km ea ev y_Model_knowing w_Model_knowing (rmD (d + 1)) [.ref (ad 0), .int p1] T0 T9 := by
  intro sz
  refine Met.ofW (cc := b_Model_knowing) (maxL := 2) (ret := none) (by decide) rfl ?_
  intro p e s m args below meth c s₁ B hml hv
  obtain ⟨rfl, hsz, hP, hK, hD0, hnw, henv⟩ := hv
  have hx := B.exec
  have hb := B.bytes
  have hr := B.returns
  have hT : ∀ w ∈ lw_good, w.before _ s = true := fun w h => atoms_spec (ws := w_Model_knowing) B.pre w (List.mem_cons_of_mem _ h)
  have hown : s.vm.findClass R_Model = some m.cls := findClass_of_methodNamed B.named
  subst hsz
  have hD := hD0.self (sz := s.heap.size)
  clear hD0
  generalize hAe : va_A (gW LM ad km T0) s.heap.size = A at hD henv ⊢
  have hA : ∀ q : Nat, s.heap.size ≤ q → A q := fun q h => by rw [← hAe]; exact Or.inr h
  have hS : va_S A s.heap s.heap [] := va_S.rf
  have hl := lv_entry ([.ref (ad 0), .int p1]) (n := 2) (Nat.le_of_ble_eq_true rfl)
  rw [lg_entry_eq]
  generalize (lg_sl ([.ref (ad 0), .int p1]) ++ List.replicate (2 - (lg_sl ([.ref (ad 0), .int p1])).length) Slot.unset).toArray = ls at hl ⊢
  have hl : lv_has ls 2 [(0, .ref (ad 0)), (1, .int p1)] := hl
  unfold rb_Model_knowing at hR
  refine lv_iload_n hx hb d_Model_knowing_0 rfl (lv_at hl 1 rfl) ?_
  refine lv_if_lt (tgt := 16) hx hb d_Model_knowing_1 (by decide) (fun c1 => ?_) (fun c1 => ?_)
  · replace hR := if_p c1 hR
    obtain ⟨-, -, e3⟩ := re_e hR
    subst e3
    exact W.vret hx hb hr (fun t ht hW => ⟨⟨(), rfl, trivial, by rw [ht]; exact hP, va_K.moved hW.alike hK, hD⟩, hS.F ht⟩) hS.2.2 d_Model_knowing_16
  · replace hR := if_n c1 hR
    refine lv_aload_n hx hb d_Model_knowing_4 rfl (lv_at hl 0 rfl) ?_
    refine lv_dup hx hb d_Model_knowing_5 rfl ?_
    refine rd_Model_627 hx hb hT hown hK hP d_Model_knowing_6 ?_
    refine lv_iconst (v := 1) hx hb d_Model_knowing_9 (by decide) ?_
    refine lv_iload_n hx hb d_Model_knowing_10 rfl (lv_at hl 1 rfl) ?_
    refine lv_ishl hx hb d_Model_knowing_11 ?_
    refine lv_ior hx hb d_Model_knowing_12 ?_
    refine wr_Model_627 hx hb hT hown hK hP hD hS d_Model_knowing_13 (fun T2 eT H locs hP hD hS => ?_)
    replace hR := stK_e eT hR
    clear eT
    obtain ⟨-, -, e3⟩ := re_e hR
    subst e3
    exact W.vret hx hb hr (fun t ht hW => ⟨⟨(), rfl, trivial, by rw [ht]; exact hP, va_K.moved hW.alike hK, hD⟩, hS.F ht⟩) hS.2.2 d_Model_knowing_16
set_option maxHeartbeats 4000000 in
set_option maxRecDepth 100000 in
theorem sp_Model_checkCondition (l : Launch) (dC : Nat → ClassId) (dI : Nat → Nat → Nat) (ea ev ad : Nat → Nat) (km : Nat → ClassId) (F : gF) (nf d : Nat) (h_Model_check : mt_Model_check l dC dI ea ev ad km F d) (h_Model_bad : mt_Model_bad l dC dI ea ev ad km F d) (h_Model_isPointer : mt_Model_isPointer l dC dI ea ev ad km F d) (h_Model_fail : mt_Model_fail l dC dI ea ev ad km F d) (T0 : gSt) (p1 : Int32) (r0 : Int32) (rl0 : Int64) (T9 : gSt) (hR : rb_Model_checkCondition F nf T0 p1 = some (r0, rl0, T9)) : GMv l dC dI LM ad km ea ev y_Model_checkCondition w_Model_checkCondition (rmD (d + 1)) [.ref (ad 0), .int p1] T0 T9 := by
  intro sz
  refine Met.ofW (cc := b_Model_checkCondition) (maxL := 3) (ret := none) (by decide) rfl ?_
  intro p e s m args below meth c s₁ B hml hv
  obtain ⟨rfl, hsz, hP, hK, hD0, hnw, henv⟩ := hv
  have hx := B.exec
  have hb := B.bytes
  have hr := B.returns
  have hT : ∀ w ∈ lw_good, w.before _ s = true := fun w h => atoms_spec (ws := w_Model_checkCondition) B.pre w (List.mem_cons_of_mem _ h)
  have hown : s.vm.findClass R_Model = some m.cls := findClass_of_methodNamed B.named
  subst hsz
  have hD := hD0.self (sz := s.heap.size)
  clear hD0
  generalize hAe : va_A (gW LM ad km T0) s.heap.size = A at hD henv ⊢
  have hA : ∀ q : Nat, s.heap.size ≤ q → A q := fun q h => by rw [← hAe]; exact Or.inr h
  have hS : va_S A s.heap s.heap [] := va_S.rf
  have hl := lv_entry ([.ref (ad 0), .int p1]) (n := 3) (Nat.le_of_ble_eq_true rfl)
  rw [lg_entry_eq]
  generalize (lg_sl ([.ref (ad 0), .int p1]) ++ List.replicate (3 - (lg_sl ([.ref (ad 0), .int p1])).length) Slot.unset).toArray = ls at hl ⊢
  have hl : lv_has ls 3 [(0, .ref (ad 0)), (1, .int p1)] := hl
  unfold rb_Model_checkCondition at hR
  refine lv_aload_n hx hb d_Model_checkCondition_0 rfl (lv_at hl 0 rfl) ?_
  refine lv_iload_n hx hb d_Model_checkCondition_1 rfl (lv_at hl 1 rfl) ?_
  replace hR := bi_e hR
  obtain ⟨r1, l1, T1, hc1, hR⟩ := hR
  refine gcV_i (rest := []) ⟨hx, hb, hml, hown, hT⟩ (h_Model_check _ _ _ _ _ hc1) (cwV 1 hT (gV ml_Model_652 im_Model_check se_Model_check ini_Model co_Model_check) rfl rfl rfl pd_Model_check ⟨rm_hi, rm_lo (Nat.le_of_ble_eq_true rfl)⟩) hK hP hD hS hA hnw henv (Nat.le_of_ble_eq_true rfl) rfl rfl hl.1 rfl (Nat.le_of_ble_eq_true rfl) d_Model_checkCondition_2 ⟨Nat.le_refl _, Nat.le_refl _⟩ (fun H locs hP hD hS => ?_)
  clear hc1
  refine lv_istore_n (lv' := [(2, .int r1), (0, .ref (ad 0)), (1, .int p1)]) hx hb d_Model_checkCondition_5 rfl hl (by decide) rfl (fun ls hl => ?_)
  refine lv_aload_n hx hb d_Model_checkCondition_6 rfl (lv_at hl 1 rfl) ?_
  replace hR := bi_e hR
  obtain ⟨r2, l2, T2, hc2, hR⟩ := hR
  refine gcV_i (rest := []) ⟨hx, hb, hml, hown, hT⟩ (h_Model_bad _ _ _ _ hc2) (cwV 0 hT (gV ml_Model_385 im_Model_bad se_Model_bad ini_Model co_Model_bad) rfl rfl rfl pd_Model_bad ⟨rm_hi, rm_lo (Nat.le_of_ble_eq_true rfl)⟩) hK hP hD hS hA hnw henv (Nat.le_of_ble_eq_true rfl) rfl rfl hl.1 rfl (Nat.le_of_ble_eq_true rfl) d_Model_checkCondition_7 ⟨Nat.le_refl _, Nat.le_refl _⟩ (fun H locs hP hD hS => ?_)
  clear hc2
  refine lv_if_ne (tgt := 36) hx hb d_Model_checkCondition_10 (by decide) (fun c3 => ?_) (fun c3 => ?_)
  · replace hR := if_n c3 hR
    obtain ⟨-, -, e3⟩ := re_e hR
    subst e3
    exact W.vret hx hb hr (fun t ht hW => ⟨⟨(), rfl, trivial, by rw [ht]; exact hP, va_K.moved hW.alike hK, hD⟩, hS.F ht⟩) hS.2.2 d_Model_checkCondition_36
  · replace hR := if_p c3 hR
    refine lv_iload_n hx hb d_Model_checkCondition_13 rfl (lv_at hl 0 rfl) ?_
    refine lv_if_eq (tgt := 36) hx hb d_Model_checkCondition_14 (by decide) (fun c4 => ?_) (fun c4 => ?_)
    · replace hR := if_p c4 hR
      obtain ⟨-, -, e3⟩ := re_e hR
      subst e3
      exact W.vret hx hb hr (fun t ht hW => ⟨⟨(), rfl, trivial, by rw [ht]; exact hP, va_K.moved hW.alike hK, hD⟩, hS.F ht⟩) hS.2.2 d_Model_checkCondition_36
    · replace hR := if_n c4 hR
      refine lv_aload_n hx hb d_Model_checkCondition_17 rfl (lv_at hl 1 rfl) ?_
      refine lv_iload_n hx hb d_Model_checkCondition_18 rfl (lv_at hl 0 rfl) ?_
      replace hR := bi_e hR
      obtain ⟨r5, l5, T5, hc5, hR⟩ := hR
      refine gcV_i (rest := []) ⟨hx, hb, hml, hown, hT⟩ (h_Model_isPointer _ _ _ _ _ hc5) (cwV 1 hT (gV ml_Model_560 im_Model_isPointer se_Model_isPointer ini_Model co_Model_isPointer) rfl rfl rfl pd_Model_isPointer ⟨rm_hi, rm_lo (Nat.le_of_ble_eq_true rfl)⟩) hK hP hD hS hA hnw henv (Nat.le_of_ble_eq_true rfl) rfl rfl hl.1 rfl (Nat.le_of_ble_eq_true rfl) d_Model_checkCondition_19 ⟨Nat.le_refl _, Nat.le_refl _⟩ (fun H locs hP hD hS => ?_)
      clear hc5
      refine lv_if_ne (tgt := 36) hx hb d_Model_checkCondition_22 (by decide) (fun c6 => ?_) (fun c6 => ?_)
      · replace hR := if_n c6 hR
        obtain ⟨-, -, e3⟩ := re_e hR
        subst e3
        exact W.vret hx hb hr (fun t ht hW => ⟨⟨(), rfl, trivial, by rw [ht]; exact hP, va_K.moved hW.alike hK, hD⟩, hS.F ht⟩) hS.2.2 d_Model_checkCondition_36
      · replace hR := if_p c6 hR
        refine lv_aload_n hx hb d_Model_checkCondition_25 rfl (lv_at hl 1 rfl) ?_
        refine lv_iconst (v := 4) hx hb d_Model_checkCondition_26 (by decide) ?_
        refine lv_aload_n hx hb d_Model_checkCondition_27 rfl (lv_at hl 1 rfl) ?_
        refine rd_Model_123 hx hb hT hown hK hP d_Model_checkCondition_28 ?_
        refine lv_iload_n hx hb d_Model_checkCondition_31 rfl (lv_at hl 2 rfl) ?_
        replace hR := gd_e hR
        obtain ⟨b7, hR⟩ := hR
        refine laM_36 hx hb hK hP b7 d_Model_checkCondition_32 ?_
        replace hR := bi_e hR
        obtain ⟨r8, l8, T8, hc8, hR⟩ := hR
        refine gcV_v (rest := []) ⟨hx, hb, hml, hown, hT⟩ (h_Model_fail _ _ _ _ _ _ hc8) (cwV 2 hT (gV ml_Model_381 im_Model_fail se_Model_fail ini_Model co_Model_fail) rfl rfl rfl pd_Model_fail ⟨rm_hi, rm_lo (Nat.le_of_ble_eq_true rfl)⟩) hK hP hD hS hA hnw henv (Nat.le_of_ble_eq_true rfl) rfl rfl hl.1 rfl (Nat.le_of_ble_eq_true rfl) d_Model_checkCondition_33 ⟨Nat.le_refl _, Nat.le_refl _⟩ (fun H locs hP hD hS => ?_)
        clear hc8
        obtain ⟨-, -, e3⟩ := re_e hR
        subst e3
        exact W.vret hx hb hr (fun t ht hW => ⟨⟨(), rfl, trivial, by rw [ht]; exact hP, va_K.moved hW.alike hK, hD⟩, hS.F ht⟩) hS.2.2 d_Model_checkCondition_36
set_option maxHeartbeats 4000000 in
set_option maxRecDepth 100000 in
theorem sp_Model_checkIf (l : Launch) (dC : Nat → ClassId) (dI : Nat → Nat → Nat) (ea ev ad : Nat → Nat) (km : Nat → ClassId) (F : gF) (nf d : Nat) (h_Model_checkCondition : mt_Model_checkCondition l dC dI ea ev ad km F d) (h_Model_bad : mt_Model_bad l dC dI ea ev ad km F d) (h_Model_asked : mt_Model_asked l dC dI ea ev ad km F d) (h_Model_knowing : mt_Model_knowing l dC dI ea ev ad km F d) (h_Model_checkBlock : mt_Model_checkBlock l dC dI ea ev ad km F d) (h_Model_meet : mt_Model_meet l dC dI ea ev ad km F d) (T0 : gSt) (p1 : Int32) (r0 : Int32) (rl0 : Int64) (T9 : gSt) (hR : rb_Model_checkIf F nf T0 p1 = some (r0, rl0, T9)) : GMv l dC dI LM ad km ea ev y_Model_checkIf w_Model_checkIf (rmD (d + 1)) [.ref (ad 0), .int p1] T0 T9 := by
  intro sz
  refine Met.ofW (cc := b_Model_checkIf) (maxL := 12) (ret := none) (by decide) rfl ?_
  intro p e s m args below meth c s₁ B hml hv
  obtain ⟨rfl, hsz, hP, hK, hD0, hnw, henv⟩ := hv
  have hx := B.exec
  have hb := B.bytes
  have hr := B.returns
  have hT : ∀ w ∈ lw_good, w.before _ s = true := fun w h => atoms_spec (ws := w_Model_checkIf) B.pre w (List.mem_cons_of_mem _ h)
  have hown : s.vm.findClass R_Model = some m.cls := findClass_of_methodNamed B.named
  subst hsz
  have hD := hD0.self (sz := s.heap.size)
  clear hD0
  generalize hAe : va_A (gW LM ad km T0) s.heap.size = A at hD henv ⊢
  have hA : ∀ q : Nat, s.heap.size ≤ q → A q := fun q h => by rw [← hAe]; exact Or.inr h
  have hS : va_S A s.heap s.heap [] := va_S.rf
  have hl := lv_entry ([.ref (ad 0), .int p1]) (n := 12) (Nat.le_of_ble_eq_true rfl)
  rw [lg_entry_eq]
  generalize (lg_sl ([.ref (ad 0), .int p1]) ++ List.replicate (12 - (lg_sl ([.ref (ad 0), .int p1])).length) Slot.unset).toArray = ls at hl ⊢
  have hl : lv_has ls 12 [(0, .ref (ad 0)), (1, .int p1)] := hl
  obtain ⟨G, hG⟩ : ∃ G : Nat → List (Nat × Value) → List Value → gSt → Prop, G = (fun pc lv stk T => ∀ (H : Heap) (locs : List Loc), va_P (dC, dI) cls_all (gW LM ad km T) H → va_D A (gW LM ad km T) → va_S A s.heap H locs → ∀ (ls : Array Slot), lv_has ls 12 lv → W p l e (headSpec w_Model_checkIf (rmD (d + 1))).room s m ([.ref (ad 0), .int p1] : List Value).toArray below meth c H locs 0 0 (MQ below (va_Qv (fun (_ : Unit) => True) (fun _ t => gPost dC dI LM ad km T9 A t) A) ([.ref (ad 0), .int p1] : List Value).toArray s 0 0 A) (F0 m pc ls stk)) := ⟨_, rfl⟩
  have lb_161 : ∀ (T : gSt) (x1 : Int32) (x8 : Int32) (x9 : Int32) (x10 : Int32) (x11 : Int32), rj_Model_checkIf_161 F nf T x1 x8 x9 x10 x11 = some (r0, rl0, T9) → G 161 [(0, .ref (ad 0)), (1, .int x1), (8, .int x8), (9, .int x9), (10, .int x10), (11, .int x11)] [] T := by
    intro T x1 x8 x9 x10 x11 hR; unfold rj_Model_checkIf_161 at hR; rw [hG]; intro H locs hP hD hS ls hl
    refine lv_aload_n hx hb d_Model_checkIf_161 rfl (lv_at hl 0 rfl) ?_
    replace hR := bi_e hR
    obtain ⟨r31, l31, T31, hc31, hR⟩ := hR
    refine gcV_i (rest := []) ⟨hx, hb, hml, hown, hT⟩ (h_Model_bad _ _ _ _ hc31) (cwV 0 hT (gV ml_Model_385 im_Model_bad se_Model_bad ini_Model co_Model_bad) rfl rfl rfl pd_Model_bad ⟨rm_hi, rm_lo (Nat.le_of_ble_eq_true rfl)⟩) hK hP hD hS hA hnw henv (Nat.le_of_ble_eq_true rfl) rfl rfl hl.1 rfl (Nat.le_of_ble_eq_true rfl) d_Model_checkIf_162 ⟨Nat.le_refl _, Nat.le_refl _⟩ (fun H locs hP hD hS => ?_)
    clear hc31
    refine lv_if_ne (tgt := 186) hx hb d_Model_checkIf_165 (by decide) (fun c32 => ?_) (fun c32 => ?_)
    · replace hR := if_n c32 hR
      obtain ⟨-, -, e3⟩ := re_e hR
      subst e3
      exact W.vret hx hb hr (fun t ht hW => ⟨⟨(), rfl, trivial, by rw [ht]; exact hP, va_K.moved hW.alike hK, hD⟩, hS.F ht⟩) hS.2.2 d_Model_checkIf_186
    · replace hR := if_p c32 hR
      refine lv_aload_n hx hb d_Model_checkIf_168 rfl (lv_at hl 0 rfl) ?_
      refine lv_iload hx hb d_Model_checkIf_169 (lv_at hl 2 rfl) ?_
      refine lv_iload hx hb d_Model_checkIf_171 (lv_at hl 3 rfl) ?_
      refine lv_iload hx hb d_Model_checkIf_173 (lv_at hl 4 rfl) ?_
      refine lv_iload hx hb d_Model_checkIf_175 (lv_at hl 5 rfl) ?_
      refine lv_aload_n hx hb d_Model_checkIf_177 rfl (lv_at hl 0 rfl) ?_
      refine rd_Model_123 hx hb hT hown hK hP d_Model_checkIf_178 ?_
      refine lv_iload_n hx hb d_Model_checkIf_181 rfl (lv_at hl 1 rfl) ?_
      replace hR := gd_e hR
      obtain ⟨b33, hR⟩ := hR
      refine laM_36 hx hb hK hP b33 d_Model_checkIf_182 ?_
      replace hR := bi_e hR
      obtain ⟨r34, l34, T34, hc34, hR⟩ := hR
      refine gcV_v (rest := []) ⟨hx, hb, hml, hown, hT⟩ (h_Model_meet _ _ _ _ _ _ _ _ _ hc34) (cwV 5 hT (gV ml_Model_711 im_Model_meet se_Model_meet ini_Model co_Model_meet) rfl rfl rfl pd_Model_meet ⟨rm_hi, rm_lo (Nat.le_of_ble_eq_true rfl)⟩) hK hP hD hS hA hnw henv (Nat.le_of_ble_eq_true rfl) rfl rfl hl.1 rfl (Nat.le_of_ble_eq_true rfl) d_Model_checkIf_183 ⟨Nat.le_refl _, Nat.le_refl _⟩ (fun H locs hP hD hS => ?_)
      clear hc34
      obtain ⟨-, -, e3⟩ := re_e hR
      subst e3
      exact W.vret hx hb hr (fun t ht hW => ⟨⟨(), rfl, trivial, by rw [ht]; exact hP, va_K.moved hW.alike hK, hD⟩, hS.F ht⟩) hS.2.2 d_Model_checkIf_186
  unfold rb_Model_checkIf at hR
  refine lv_aload_n hx hb d_Model_checkIf_0 rfl (lv_at hl 0 rfl) ?_
  refine lv_aload_n hx hb d_Model_checkIf_1 rfl (lv_at hl 0 rfl) ?_
  refine rd_Model_126 hx hb hT hown hK hP d_Model_checkIf_2 ?_
  refine lv_iload_n hx hb d_Model_checkIf_5 rfl (lv_at hl 1 rfl) ?_
  replace hR := gd_e hR
  obtain ⟨b1, hR⟩ := hR
  refine laM_37 hx hb hK hP b1 d_Model_checkIf_6 ?_
  replace hR := bi_e hR
  obtain ⟨r2, l2, T2, hc2, hR⟩ := hR
  refine gcV_v (rest := []) ⟨hx, hb, hml, hown, hT⟩ (h_Model_checkCondition _ _ _ _ _ hc2) (cwV 1 hT (gV ml_Model_701 im_Model_checkCondition se_Model_checkCondition ini_Model co_Model_checkCondition) rfl rfl rfl pd_Model_checkCondition ⟨rm_hi, rm_lo (Nat.le_of_ble_eq_true rfl)⟩) hK hP hD hS hA hnw henv (Nat.le_of_ble_eq_true rfl) rfl rfl hl.1 rfl (Nat.le_of_ble_eq_true rfl) d_Model_checkIf_7 ⟨Nat.le_refl _, Nat.le_refl _⟩ (fun H locs hP hD hS => ?_)
  clear hc2
  refine lv_aload_n hx hb d_Model_checkIf_10 rfl (lv_at hl 0 rfl) ?_
  replace hR := bi_e hR
  obtain ⟨r3, l3, T3, hc3, hR⟩ := hR
  refine gcV_i (rest := []) ⟨hx, hb, hml, hown, hT⟩ (h_Model_bad _ _ _ _ hc3) (cwV 0 hT (gV ml_Model_385 im_Model_bad se_Model_bad ini_Model co_Model_bad) rfl rfl rfl pd_Model_bad ⟨rm_hi, rm_lo (Nat.le_of_ble_eq_true rfl)⟩) hK hP hD hS hA hnw henv (Nat.le_of_ble_eq_true rfl) rfl rfl hl.1 rfl (Nat.le_of_ble_eq_true rfl) d_Model_checkIf_11 ⟨Nat.le_refl _, Nat.le_refl _⟩ (fun H locs hP hD hS => ?_)
  clear hc3
  refine lv_if_eq (tgt := 18) hx hb d_Model_checkIf_14 (by decide) (fun c4 => ?_) (fun c4 => ?_)
  · replace hR := if_p c4 hR
    refine lv_aload_n hx hb d_Model_checkIf_18 rfl (lv_at hl 0 rfl) ?_
    refine lv_aload_n hx hb d_Model_checkIf_19 rfl (lv_at hl 0 rfl) ?_
    refine rd_Model_126 hx hb hT hown hK hP d_Model_checkIf_20 ?_
    refine lv_iload_n hx hb d_Model_checkIf_23 rfl (lv_at hl 1 rfl) ?_
    replace hR := gd_e hR
    obtain ⟨b5, hR⟩ := hR
    refine laM_37 hx hb hK hP b5 d_Model_checkIf_24 ?_
    refine lv_iconst (v := 0) hx hb d_Model_checkIf_25 (by decide) ?_
    replace hR := bi_e hR
    obtain ⟨r6, l6, T6, hc6, hR⟩ := hR
    refine gcV_i (rest := []) ⟨hx, hb, hml, hown, hT⟩ (h_Model_asked _ _ _ _ _ _ hc6) (cwV 2 hT (gV ml_Model_704 im_Model_asked se_Model_asked ini_Model co_Model_asked) rfl rfl rfl pd_Model_asked ⟨rm_hi, rm_lo (Nat.le_of_ble_eq_true rfl)⟩) hK hP hD hS hA hnw henv (Nat.le_of_ble_eq_true rfl) rfl rfl hl.1 rfl (Nat.le_of_ble_eq_true rfl) d_Model_checkIf_26 ⟨Nat.le_refl _, Nat.le_refl _⟩ (fun H locs hP hD hS => ?_)
    clear hc6
    refine lv_istore_n (lv' := [(2, .int r6), (0, .ref (ad 0)), (1, .int p1)]) hx hb d_Model_checkIf_29 rfl hl (by decide) rfl (fun ls hl => ?_)
    refine lv_aload_n hx hb d_Model_checkIf_30 rfl (lv_at hl 1 rfl) ?_
    refine lv_aload_n hx hb d_Model_checkIf_31 rfl (lv_at hl 1 rfl) ?_
    refine rd_Model_126 hx hb hT hown hK hP d_Model_checkIf_32 ?_
    refine lv_iload_n hx hb d_Model_checkIf_35 rfl (lv_at hl 2 rfl) ?_
    replace hR := gd_e hR
    obtain ⟨b7, hR⟩ := hR
    refine laM_37 hx hb hK hP b7 d_Model_checkIf_36 ?_
    refine lv_iconst (v := 1) hx hb d_Model_checkIf_37 (by decide) ?_
    replace hR := bi_e hR
    obtain ⟨r8, l8, T8, hc8, hR⟩ := hR
    refine gcV_i (rest := []) ⟨hx, hb, hml, hown, hT⟩ (h_Model_asked _ _ _ _ _ _ hc8) (cwV 2 hT (gV ml_Model_704 im_Model_asked se_Model_asked ini_Model co_Model_asked) rfl rfl rfl pd_Model_asked ⟨rm_hi, rm_lo (Nat.le_of_ble_eq_true rfl)⟩) hK hP hD hS hA hnw henv (Nat.le_of_ble_eq_true rfl) rfl rfl hl.1 rfl (Nat.le_of_ble_eq_true rfl) d_Model_checkIf_38 ⟨Nat.le_refl _, Nat.le_refl _⟩ (fun H locs hP hD hS => ?_)
    clear hc8
    refine lv_istore_n (lv' := [(3, .int r8), (2, .int r6), (0, .ref (ad 0)), (1, .int p1)]) hx hb d_Model_checkIf_41 rfl hl (by decide) rfl (fun ls hl => ?_)
    refine lv_aload_n hx hb d_Model_checkIf_42 rfl (lv_at hl 2 rfl) ?_
    refine rd_Model_624 hx hb hT hown hK hP d_Model_checkIf_43 ?_
    refine lv_topi (fun z9 e9 => ?_)
    replace hR := vK_e e9 hR
    refine lv_istore (lv' := [(4, .int z9), (3, .int r8), (2, .int r6), (0, .ref (ad 0)), (1, .int p1)]) hx hb d_Model_checkIf_46 hl (by decide) rfl (fun ls hl => ?_)
    refine lv_aload_n hx hb d_Model_checkIf_48 rfl (lv_at hl 3 rfl) ?_
    refine rd_Model_627 hx hb hT hown hK hP d_Model_checkIf_49 ?_
    refine lv_topi (fun z10 e10 => ?_)
    replace hR := vK_e e10 hR
    refine lv_istore (lv' := [(5, .int z10), (4, .int z9), (3, .int r8), (2, .int r6), (0, .ref (ad 0)), (1, .int p1)]) hx hb d_Model_checkIf_52 hl (by decide) rfl (fun ls hl => ?_)
    refine lv_aload_n hx hb d_Model_checkIf_54 rfl (lv_at hl 4 rfl) ?_
    refine rd_Model_575 hx hb hT hown hK hP d_Model_checkIf_55 ?_
    refine lv_topi (fun z11 e11 => ?_)
    replace hR := vK_e e11 hR
    refine lv_istore (lv' := [(6, .int z11), (5, .int z10), (4, .int z9), (3, .int r8), (2, .int r6), (0, .ref (ad 0)), (1, .int p1)]) hx hb d_Model_checkIf_58 hl (by decide) rfl (fun ls hl => ?_)
    refine lv_aload_n hx hb d_Model_checkIf_60 rfl (lv_at hl 5 rfl) ?_
    refine rd_Model_630 hx hb hT hown hK hP d_Model_checkIf_61 ?_
    refine lv_topi (fun z12 e12 => ?_)
    replace hR := vK_e e12 hR
    refine lv_istore (lv' := [(7, .int z12), (6, .int z11), (5, .int z10), (4, .int z9), (3, .int r8), (2, .int r6), (0, .ref (ad 0)), (1, .int p1)]) hx hb d_Model_checkIf_64 hl (by decide) rfl (fun ls hl => ?_)
    refine lv_aload_n hx hb d_Model_checkIf_66 rfl (lv_at hl 6 rfl) ?_
    refine lv_iload_n hx hb d_Model_checkIf_67 rfl (lv_at hl 5 rfl) ?_
    replace hR := bi_e hR
    obtain ⟨r13, l13, T13, hc13, hR⟩ := hR
    refine gcV_v (rest := []) ⟨hx, hb, hml, hown, hT⟩ (h_Model_knowing _ _ _ _ _ hc13) (cwV 1 hT (gV ml_Model_708 im_Model_knowing se_Model_knowing ini_Model co_Model_knowing) rfl rfl rfl pd_Model_knowing ⟨rm_hi, rm_lo (Nat.le_of_ble_eq_true rfl)⟩) hK hP hD hS hA hnw henv (Nat.le_of_ble_eq_true rfl) rfl rfl hl.1 rfl (Nat.le_of_ble_eq_true rfl) d_Model_checkIf_68 ⟨Nat.le_refl _, Nat.le_refl _⟩ (fun H locs hP hD hS => ?_)
    clear hc13
    refine lv_aload_n hx hb d_Model_checkIf_71 rfl (lv_at hl 6 rfl) ?_
    refine lv_aload_n hx hb d_Model_checkIf_72 rfl (lv_at hl 6 rfl) ?_
    refine rd_Model_129 hx hb hT hown hK hP d_Model_checkIf_73 ?_
    refine lv_iload_n hx hb d_Model_checkIf_76 rfl (lv_at hl 7 rfl) ?_
    replace hR := gd_e hR
    obtain ⟨b14, hR⟩ := hR
    refine laM_38 hx hb hK hP b14 d_Model_checkIf_77 ?_
    replace hR := bi_e hR
    obtain ⟨r15, l15, T15, hc15, hR⟩ := hR
    refine gcV_v (rest := []) ⟨hx, hb, hml, hown, hT⟩ (h_Model_checkBlock _ _ _ _ _ hc15) (cwV 1 hT (gV ml_Model_646 im_Model_checkBlock se_Model_checkBlock ini_Model co_Model_checkBlock) rfl rfl rfl pd_Model_checkBlock ⟨rm_hi, rm_lo (Nat.le_of_ble_eq_true rfl)⟩) hK hP hD hS hA hnw henv (Nat.le_of_ble_eq_true rfl) rfl rfl hl.1 rfl (Nat.le_of_ble_eq_true rfl) d_Model_checkIf_78 ⟨Nat.le_refl _, Nat.le_refl _⟩ (fun H locs hP hD hS => ?_)
    clear hc15
    refine lv_aload_n hx hb d_Model_checkIf_81 rfl (lv_at hl 6 rfl) ?_
    replace hR := bi_e hR
    obtain ⟨r16, l16, T16, hc16, hR⟩ := hR
    refine gcV_i (rest := []) ⟨hx, hb, hml, hown, hT⟩ (h_Model_bad _ _ _ _ hc16) (cwV 0 hT (gV ml_Model_385 im_Model_bad se_Model_bad ini_Model co_Model_bad) rfl rfl rfl pd_Model_bad ⟨rm_hi, rm_lo (Nat.le_of_ble_eq_true rfl)⟩) hK hP hD hS hA hnw henv (Nat.le_of_ble_eq_true rfl) rfl rfl hl.1 rfl (Nat.le_of_ble_eq_true rfl) d_Model_checkIf_82 ⟨Nat.le_refl _, Nat.le_refl _⟩ (fun H locs hP hD hS => ?_)
    clear hc16
    refine lv_if_eq (tgt := 89) hx hb d_Model_checkIf_85 (by decide) (fun c17 => ?_) (fun c17 => ?_)
    · replace hR := if_p c17 hR
      refine lv_aload_n hx hb d_Model_checkIf_89 rfl (lv_at hl 6 rfl) ?_
      refine rd_Model_624 hx hb hT hown hK hP d_Model_checkIf_90 ?_
      refine lv_topi (fun z18 e18 => ?_)
      replace hR := vK_e e18 hR
      refine lv_istore (lv' := [(8, .int z18), (7, .int z12), (6, .int z11), (5, .int z10), (4, .int z9), (3, .int r8), (2, .int r6), (0, .ref (ad 0)), (1, .int p1)]) hx hb d_Model_checkIf_93 hl (by decide) rfl (fun ls hl => ?_)
      refine lv_aload_n hx hb d_Model_checkIf_95 rfl (lv_at hl 7 rfl) ?_
      refine rd_Model_627 hx hb hT hown hK hP d_Model_checkIf_96 ?_
      refine lv_topi (fun z19 e19 => ?_)
      replace hR := vK_e e19 hR
      refine lv_istore (lv' := [(9, .int z19), (8, .int z18), (7, .int z12), (6, .int z11), (5, .int z10), (4, .int z9), (3, .int r8), (2, .int r6), (0, .ref (ad 0)), (1, .int p1)]) hx hb d_Model_checkIf_99 hl (by decide) rfl (fun ls hl => ?_)
      refine lv_aload_n hx hb d_Model_checkIf_101 rfl (lv_at hl 8 rfl) ?_
      refine rd_Model_575 hx hb hT hown hK hP d_Model_checkIf_102 ?_
      refine lv_topi (fun z20 e20 => ?_)
      replace hR := vK_e e20 hR
      refine lv_istore (lv' := [(10, .int z20), (9, .int z19), (8, .int z18), (7, .int z12), (6, .int z11), (5, .int z10), (4, .int z9), (3, .int r8), (2, .int r6), (0, .ref (ad 0)), (1, .int p1)]) hx hb d_Model_checkIf_105 hl (by decide) rfl (fun ls hl => ?_)
      refine lv_aload_n hx hb d_Model_checkIf_107 rfl (lv_at hl 9 rfl) ?_
      refine rd_Model_630 hx hb hT hown hK hP d_Model_checkIf_108 ?_
      refine lv_topi (fun z21 e21 => ?_)
      replace hR := vK_e e21 hR
      refine lv_istore (lv' := [(11, .int z21), (10, .int z20), (9, .int z19), (8, .int z18), (7, .int z12), (6, .int z11), (5, .int z10), (4, .int z9), (3, .int r8), (2, .int r6), (0, .ref (ad 0)), (1, .int p1)]) hx hb d_Model_checkIf_111 hl (by decide) rfl (fun ls hl => ?_)
      refine lv_aload_n hx hb d_Model_checkIf_113 rfl (lv_at hl 10 rfl) ?_
      refine lv_iload hx hb d_Model_checkIf_114 (lv_at hl 7 rfl) ?_
      refine wr_Model_624 hx hb hT hown hK hP hD hS d_Model_checkIf_116 (fun T22 eT H locs hP hD hS => ?_)
      replace hR := stK_e eT hR
      clear eT
      refine lv_aload_n hx hb d_Model_checkIf_119 rfl (lv_at hl 10 rfl) ?_
      refine lv_iload hx hb d_Model_checkIf_120 (lv_at hl 6 rfl) ?_
      refine wr_Model_627 hx hb hT hown hK hP hD hS d_Model_checkIf_122 (fun T23 eT H locs hP hD hS => ?_)
      replace hR := stK_e eT hR
      clear eT
      refine lv_aload_n hx hb d_Model_checkIf_125 rfl (lv_at hl 10 rfl) ?_
      refine lv_iload hx hb d_Model_checkIf_126 (lv_at hl 5 rfl) ?_
      refine wr_Model_575 hx hb hT hown hK hP hD hS d_Model_checkIf_128 (fun T24 eT H locs hP hD hS => ?_)
      replace hR := stK_e eT hR
      clear eT
      refine lv_aload_n hx hb d_Model_checkIf_131 rfl (lv_at hl 10 rfl) ?_
      refine lv_iload hx hb d_Model_checkIf_132 (lv_at hl 4 rfl) ?_
      replace hR := gd_e hR
      obtain ⟨b25, hR⟩ := hR
      refine wr_Model_630 hx hb hT hown hK hP hD hS b25 d_Model_checkIf_134 (fun T25 eT H locs hP hD hS => ?_)
      replace hR := stK_e eT hR
      clear eT
      refine lv_aload_n hx hb d_Model_checkIf_137 rfl (lv_at hl 10 rfl) ?_
      refine lv_iload_n hx hb d_Model_checkIf_138 rfl (lv_at hl 8 rfl) ?_
      replace hR := bi_e hR
      obtain ⟨r26, l26, T26, hc26, hR⟩ := hR
      refine gcV_v (rest := []) ⟨hx, hb, hml, hown, hT⟩ (h_Model_knowing _ _ _ _ _ hc26) (cwV 1 hT (gV ml_Model_708 im_Model_knowing se_Model_knowing ini_Model co_Model_knowing) rfl rfl rfl pd_Model_knowing ⟨rm_hi, rm_lo (Nat.le_of_ble_eq_true rfl)⟩) hK hP hD hS hA hnw henv (Nat.le_of_ble_eq_true rfl) rfl rfl hl.1 rfl (Nat.le_of_ble_eq_true rfl) d_Model_checkIf_139 ⟨Nat.le_refl _, Nat.le_refl _⟩ (fun H locs hP hD hS => ?_)
      clear hc26
      refine lv_aload_n hx hb d_Model_checkIf_142 rfl (lv_at hl 10 rfl) ?_
      refine rd_Model_132 hx hb hT hown hK hP d_Model_checkIf_143 ?_
      refine lv_iload_n hx hb d_Model_checkIf_146 rfl (lv_at hl 11 rfl) ?_
      replace hR := gd_e hR
      obtain ⟨b27, hR⟩ := hR
      refine laM_39 hx hb hK hP b27 d_Model_checkIf_147 ?_
      refine lv_if_lt (tgt := 161) hx hb d_Model_checkIf_148 (by decide) (fun c28 => ?_) (fun c28 => ?_)
      · replace hR := if_p c28 hR
        have g := lb_161 T26 p1 z18 z19 z20 z21 hR
        rw [hG] at g
        exact g _ _ hP hD hS _ (lv_sub hl [10, 11, 3, 2, 1, 0] rfl)
      · replace hR := if_n c28 hR
        refine lv_aload_n hx hb d_Model_checkIf_151 rfl (lv_at hl 10 rfl) ?_
        refine lv_aload_n hx hb d_Model_checkIf_152 rfl (lv_at hl 10 rfl) ?_
        refine rd_Model_132 hx hb hT hown hK hP d_Model_checkIf_153 ?_
        refine lv_iload_n hx hb d_Model_checkIf_156 rfl (lv_at hl 11 rfl) ?_
        replace hR := gd_e hR
        obtain ⟨b29, hR⟩ := hR
        refine laM_39 hx hb hK hP b29 d_Model_checkIf_157 ?_
        replace hR := bi_e hR
        obtain ⟨r30, l30, T30, hc30, hR⟩ := hR
        refine gcV_v (rest := []) ⟨hx, hb, hml, hown, hT⟩ (h_Model_checkBlock _ _ _ _ _ hc30) (cwV 1 hT (gV ml_Model_646 im_Model_checkBlock se_Model_checkBlock ini_Model co_Model_checkBlock) rfl rfl rfl pd_Model_checkBlock ⟨rm_hi, rm_lo (Nat.le_of_ble_eq_true rfl)⟩) hK hP hD hS hA hnw henv (Nat.le_of_ble_eq_true rfl) rfl rfl hl.1 rfl (Nat.le_of_ble_eq_true rfl) d_Model_checkIf_158 ⟨Nat.le_refl _, Nat.le_refl _⟩ (fun H locs hP hD hS => ?_)
        clear hc30
        have g := lb_161 T30 p1 z18 z19 z20 z21 hR
        rw [hG] at g
        exact g _ _ hP hD hS _ (lv_sub hl [10, 11, 3, 2, 1, 0] rfl)
    · replace hR := if_n c17 hR
      obtain ⟨-, -, e3⟩ := re_e hR
      subst e3
      exact W.vret hx hb hr (fun t ht hW => ⟨⟨(), rfl, trivial, by rw [ht]; exact hP, va_K.moved hW.alike hK, hD⟩, hS.F ht⟩) hS.2.2 d_Model_checkIf_88
  · replace hR := if_n c4 hR
    obtain ⟨-, -, e3⟩ := re_e hR
    subst e3
    exact W.vret hx hb hr (fun t ht hW => ⟨⟨(), rfl, trivial, by rw [ht]; exact hP, va_K.moved hW.alike hK, hD⟩, hS.F ht⟩) hS.2.2 d_Model_checkIf_17
set_option maxHeartbeats 4000000 in
set_option maxRecDepth 100000 in
theorem sp_Model_meet (l : Launch) (dC : Nat → ClassId) (dI : Nat → Nat → Nat) (ea ev ad : Nat → Nat) (km : Nat → ClassId) (F : gF) (nf d : Nat) (h_Model_fail : mt_Model_fail l dC dI ea ev ad km F d) (T0 : gSt) (p1 : Int32) (p2 : Int32) (p3 : Int32) (p4 : Int32) (p5 : Int32) (r0 : Int32) (rl0 : Int64) (T9 : gSt) (hR : rb_Model_meet F nf T0 p1 p2 p3 p4 p5 = some (r0, rl0, T9)) : GMv l dC dI LM ad km ea ev y_Model_meet w_Model_meet (rmD (d + 1)) [.ref (ad 0), .int p1, .int p2, .int p3, .int p4, .int p5] T0 T9 := by
  intro sz
  refine Met.ofW (cc := b_Model_meet) (maxL := 6) (ret := none) (by decide) rfl ?_
  intro p e s m args below meth c s₁ B hml hv
  obtain ⟨rfl, hsz, hP, hK, hD0, hnw, henv⟩ := hv
  have hx := B.exec
  have hb := B.bytes
  have hr := B.returns
  have hT : ∀ w ∈ lw_good, w.before _ s = true := fun w h => atoms_spec (ws := w_Model_meet) B.pre w (List.mem_cons_of_mem _ h)
  have hown : s.vm.findClass R_Model = some m.cls := findClass_of_methodNamed B.named
  subst hsz
  have hD := hD0.self (sz := s.heap.size)
  clear hD0
  generalize hAe : va_A (gW LM ad km T0) s.heap.size = A at hD henv ⊢
  have hA : ∀ q : Nat, s.heap.size ≤ q → A q := fun q h => by rw [← hAe]; exact Or.inr h
  have hS : va_S A s.heap s.heap [] := va_S.rf
  have hl := lv_entry ([.ref (ad 0), .int p1, .int p2, .int p3, .int p4, .int p5]) (n := 6) (Nat.le_of_ble_eq_true rfl)
  rw [lg_entry_eq]
  generalize (lg_sl ([.ref (ad 0), .int p1, .int p2, .int p3, .int p4, .int p5]) ++ List.replicate (6 - (lg_sl ([.ref (ad 0), .int p1, .int p2, .int p3, .int p4, .int p5])).length) Slot.unset).toArray = ls at hl ⊢
  have hl : lv_has ls 6 [(0, .ref (ad 0)), (1, .int p1), (2, .int p2), (3, .int p3), (4, .int p4), (5, .int p5)] := hl
  obtain ⟨G, hG⟩ : ∃ G : Nat → List (Nat × Value) → List Value → gSt → Prop, G = (fun pc lv stk T => ∀ (H : Heap) (locs : List Loc), va_P (dC, dI) cls_all (gW LM ad km T) H → va_D A (gW LM ad km T) → va_S A s.heap H locs → ∀ (ls : Array Slot), lv_has ls 6 lv → W p l e (headSpec w_Model_meet (rmD (d + 1))).room s m ([.ref (ad 0), .int p1, .int p2, .int p3, .int p4, .int p5] : List Value).toArray below meth c H locs 0 0 (MQ below (va_Qv (fun (_ : Unit) => True) (fun _ t => gPost dC dI LM ad km T9 A t) A) ([.ref (ad 0), .int p1, .int p2, .int p3, .int p4, .int p5] : List Value).toArray s 0 0 A) (F0 m pc ls stk)) := ⟨_, rfl⟩
  have lb_51 : ∀ (T : gSt) (x1 : Int32) (x2 : Int32) (x3 : Int32) (x4 : Int32), rj_Model_meet_51 F nf T x1 x2 x3 x4 = some (r0, rl0, T9) → G 51 [(0, .ref (ad 0)), (1, .int x1), (2, .int x2), (3, .int x3), (4, .int x4)] [] T := by
    intro T x1 x2 x3 x4 hR; unfold rj_Model_meet_51 at hR; rw [hG]; intro H locs hP hD hS ls hl
    refine lv_iload hx hb d_Model_meet_51 (lv_at hl 4 rfl) ?_
    refine lv_if_ne (tgt := 63) hx hb d_Model_meet_53 (by decide) (fun c9 => ?_) (fun c9 => ?_)
    · replace hR := if_n c9 hR
      refine lv_aload_n hx hb d_Model_meet_63 rfl (lv_at hl 0 rfl) ?_
      refine lv_iload_n hx hb d_Model_meet_64 rfl (lv_at hl 1 rfl) ?_
      refine wr_Model_624 hx hb hT hown hK hP hD hS d_Model_meet_65 (fun T10 eT H locs hP hD hS => ?_)
      replace hR := stK_e eT hR
      clear eT
      refine lv_aload_n hx hb d_Model_meet_68 rfl (lv_at hl 0 rfl) ?_
      refine lv_iload_n hx hb d_Model_meet_69 rfl (lv_at hl 2 rfl) ?_
      refine wr_Model_627 hx hb hT hown hK hP hD hS d_Model_meet_70 (fun T11 eT H locs hP hD hS => ?_)
      replace hR := stK_e eT hR
      clear eT
      refine lv_aload_n hx hb d_Model_meet_73 rfl (lv_at hl 0 rfl) ?_
      refine lv_iload_n hx hb d_Model_meet_74 rfl (lv_at hl 3 rfl) ?_
      refine wr_Model_575 hx hb hT hown hK hP hD hS d_Model_meet_75 (fun T12 eT H locs hP hD hS => ?_)
      replace hR := stK_e eT hR
      clear eT
      refine lv_aload_n hx hb d_Model_meet_78 rfl (lv_at hl 0 rfl) ?_
      refine lv_iload hx hb d_Model_meet_79 (lv_at hl 4 rfl) ?_
      replace hR := gd_e hR
      obtain ⟨b13, hR⟩ := hR
      refine wr_Model_630 hx hb hT hown hK hP hD hS b13 d_Model_meet_81 (fun T13 eT H locs hP hD hS => ?_)
      replace hR := stK_e eT hR
      clear eT
      obtain ⟨-, -, e3⟩ := re_e hR
      subst e3
      exact W.vret hx hb hr (fun t ht hW => ⟨⟨(), rfl, trivial, by rw [ht]; exact hP, va_K.moved hW.alike hK, hD⟩, hS.F ht⟩) hS.2.2 d_Model_meet_84
    · replace hR := if_p c9 hR
      refine lv_aload_n hx hb d_Model_meet_56 rfl (lv_at hl 0 rfl) ?_
      refine rd_Model_630 hx hb hT hown hK hP d_Model_meet_57 ?_
      refine lv_if_ne (tgt := 84) hx hb d_Model_meet_60 (by decide) (fun c14 => ?_) (fun c14 => ?_)
      · replace hR := if_n c14 hR
        obtain ⟨-, -, e3⟩ := re_e hR
        subst e3
        exact W.vret hx hb hr (fun t ht hW => ⟨⟨(), rfl, trivial, by rw [ht]; exact hP, va_K.moved hW.alike hK, hD⟩, hS.F ht⟩) hS.2.2 d_Model_meet_84
      · replace hR := if_p c14 hR
        refine lv_aload_n hx hb d_Model_meet_63 rfl (lv_at hl 0 rfl) ?_
        refine lv_iload_n hx hb d_Model_meet_64 rfl (lv_at hl 1 rfl) ?_
        refine wr_Model_624 hx hb hT hown hK hP hD hS d_Model_meet_65 (fun T15 eT H locs hP hD hS => ?_)
        replace hR := stK_e eT hR
        clear eT
        refine lv_aload_n hx hb d_Model_meet_68 rfl (lv_at hl 0 rfl) ?_
        refine lv_iload_n hx hb d_Model_meet_69 rfl (lv_at hl 2 rfl) ?_
        refine wr_Model_627 hx hb hT hown hK hP hD hS d_Model_meet_70 (fun T16 eT H locs hP hD hS => ?_)
        replace hR := stK_e eT hR
        clear eT
        refine lv_aload_n hx hb d_Model_meet_73 rfl (lv_at hl 0 rfl) ?_
        refine lv_iload_n hx hb d_Model_meet_74 rfl (lv_at hl 3 rfl) ?_
        refine wr_Model_575 hx hb hT hown hK hP hD hS d_Model_meet_75 (fun T17 eT H locs hP hD hS => ?_)
        replace hR := stK_e eT hR
        clear eT
        refine lv_aload_n hx hb d_Model_meet_78 rfl (lv_at hl 0 rfl) ?_
        refine lv_iload hx hb d_Model_meet_79 (lv_at hl 4 rfl) ?_
        replace hR := gd_e hR
        obtain ⟨b18, hR⟩ := hR
        refine wr_Model_630 hx hb hT hown hK hP hD hS b18 d_Model_meet_81 (fun T18 eT H locs hP hD hS => ?_)
        replace hR := stK_e eT hR
        clear eT
        obtain ⟨-, -, e3⟩ := re_e hR
        subst e3
        exact W.vret hx hb hr (fun t ht hW => ⟨⟨(), rfl, trivial, by rw [ht]; exact hP, va_K.moved hW.alike hK, hD⟩, hS.F ht⟩) hS.2.2 d_Model_meet_84
  unfold rb_Model_meet at hR
  refine lv_aload_n hx hb d_Model_meet_0 rfl (lv_at hl 0 rfl) ?_
  refine rd_Model_630 hx hb hT hown hK hP d_Model_meet_1 ?_
  refine lv_if_eq (tgt := 51) hx hb d_Model_meet_4 (by decide) (fun c1 => ?_) (fun c1 => ?_)
  · replace hR := if_p c1 hR
    have g := lb_51 T0 p1 p2 p3 p4 hR
    rw [hG] at g
    exact g _ _ hP hD hS _ (lv_sub hl [0, 1, 2, 3, 4] rfl)
  · replace hR := if_n c1 hR
    refine lv_iload hx hb d_Model_meet_7 (lv_at hl 4 rfl) ?_
    refine lv_if_eq (tgt := 51) hx hb d_Model_meet_9 (by decide) (fun c2 => ?_) (fun c2 => ?_)
    · replace hR := if_p c2 hR
      have g := lb_51 T0 p1 p2 p3 p4 hR
      rw [hG] at g
      exact g _ _ hP hD hS _ (lv_sub hl [0, 1, 2, 3, 4] rfl)
    · replace hR := if_n c2 hR
      refine lv_aload_n hx hb d_Model_meet_12 rfl (lv_at hl 0 rfl) ?_
      refine rd_Model_575 hx hb hT hown hK hP d_Model_meet_13 ?_
      refine lv_iload_n hx hb d_Model_meet_16 rfl (lv_at hl 3 rfl) ?_
      refine lv_icmp_eq (tgt := 28) hx hb d_Model_meet_17 (by decide) (fun c3 => ?_) (fun c3 => ?_)
      · replace hR := if_p c3 hR
        refine lv_aload_n hx hb d_Model_meet_28 rfl (lv_at hl 0 rfl) ?_
        refine lv_dup hx hb d_Model_meet_29 rfl ?_
        refine rd_Model_624 hx hb hT hown hK hP d_Model_meet_30 ?_
        refine lv_iload_n hx hb d_Model_meet_33 rfl (lv_at hl 1 rfl) ?_
        refine lv_iand hx hb d_Model_meet_34 ?_
        refine wr_Model_624 hx hb hT hown hK hP hD hS d_Model_meet_35 (fun T4 eT H locs hP hD hS => ?_)
        replace hR := stK_e eT hR
        clear eT
        refine lv_aload_n hx hb d_Model_meet_38 rfl (lv_at hl 0 rfl) ?_
        refine lv_dup hx hb d_Model_meet_39 rfl ?_
        refine rd_Model_627 hx hb hT hown hK hP d_Model_meet_40 ?_
        refine lv_iload_n hx hb d_Model_meet_43 rfl (lv_at hl 2 rfl) ?_
        refine lv_iand hx hb d_Model_meet_44 ?_
        refine wr_Model_627 hx hb hT hown hK hP hD hS d_Model_meet_45 (fun T5 eT H locs hP hD hS => ?_)
        replace hR := stK_e eT hR
        clear eT
        refine lv_goto (tgt := 84) hx hb d_Model_meet_48 (by decide) ?_
        obtain ⟨-, -, e3⟩ := re_e hR
        subst e3
        exact W.vret hx hb hr (fun t ht hW => ⟨⟨(), rfl, trivial, by rw [ht]; exact hP, va_K.moved hW.alike hK, hD⟩, hS.F ht⟩) hS.2.2 d_Model_meet_84
      · replace hR := if_n c3 hR
        refine lv_aload_n hx hb d_Model_meet_20 rfl (lv_at hl 0 rfl) ?_
        refine lv_bipush (v := 8) hx hb d_Model_meet_21 (by decide) ?_
        refine lv_iload hx hb d_Model_meet_23 (lv_at hl 5 rfl) ?_
        replace hR := bi_e hR
        obtain ⟨r6, l6, T6, hc6, hR⟩ := hR
        refine gcV_v (rest := []) ⟨hx, hb, hml, hown, hT⟩ (h_Model_fail _ _ _ _ _ _ hc6) (cwV 2 hT (gV ml_Model_381 im_Model_fail se_Model_fail ini_Model co_Model_fail) rfl rfl rfl pd_Model_fail ⟨rm_hi, rm_lo (Nat.le_of_ble_eq_true rfl)⟩) hK hP hD hS hA hnw henv (Nat.le_of_ble_eq_true rfl) rfl rfl hl.1 rfl (Nat.le_of_ble_eq_true rfl) d_Model_meet_25 ⟨Nat.le_refl _, Nat.le_refl _⟩ (fun H locs hP hD hS => ?_)
        clear hc6
        refine lv_aload_n hx hb d_Model_meet_28 rfl (lv_at hl 0 rfl) ?_
        refine lv_dup hx hb d_Model_meet_29 rfl ?_
        refine rd_Model_624 hx hb hT hown hK hP d_Model_meet_30 ?_
        refine lv_iload_n hx hb d_Model_meet_33 rfl (lv_at hl 1 rfl) ?_
        refine lv_iand hx hb d_Model_meet_34 ?_
        refine wr_Model_624 hx hb hT hown hK hP hD hS d_Model_meet_35 (fun T7 eT H locs hP hD hS => ?_)
        replace hR := stK_e eT hR
        clear eT
        refine lv_aload_n hx hb d_Model_meet_38 rfl (lv_at hl 0 rfl) ?_
        refine lv_dup hx hb d_Model_meet_39 rfl ?_
        refine rd_Model_627 hx hb hT hown hK hP d_Model_meet_40 ?_
        refine lv_iload_n hx hb d_Model_meet_43 rfl (lv_at hl 2 rfl) ?_
        refine lv_iand hx hb d_Model_meet_44 ?_
        refine wr_Model_627 hx hb hT hown hK hP hD hS d_Model_meet_45 (fun T8 eT H locs hP hD hS => ?_)
        replace hR := stK_e eT hR
        clear eT
        refine lv_goto (tgt := 84) hx hb d_Model_meet_48 (by decide) ?_
        obtain ⟨-, -, e3⟩ := re_e hR
        subst e3
        exact W.vret hx hb hr (fun t ht hW => ⟨⟨(), rfl, trivial, by rw [ht]; exact hP, va_K.moved hW.alike hK, hD⟩, hS.F ht⟩) hS.2.2 d_Model_meet_84
set_option maxHeartbeats 4000000 in
set_option maxRecDepth 100000 in
theorem sp_Model_given (l : Launch) (dC : Nat → ClassId) (dI : Nat → Nat → Nat) (ea ev ad : Nat → Nat) (km : Nat → ClassId) (F : gF) (nf d : Nat) (h_Model_findVar : mt_Model_findVar l dC dI ea ev ad km F d) (h_Model_given : mt_Model_given l dC dI ea ev ad km F d) (T0 : gSt) (p1 : Int32) (r0 : Int32) (rl0 : Int64) (T9 : gSt) (hR : rb_Model_given F nf T0 p1 = some (r0, rl0, T9)) : GMi l dC dI LM ad km ea ev y_Model_given w_Model_given (rmD (d + 1)) [.ref (ad 0), .int p1] T0 r0 T9 := by
  intro sz
  refine Met.ofW (cc := b_Model_given) (maxL := 5) (ret := (some .int)) (by decide) rfl ?_
  intro p e s m args below meth c s₁ B hml hv
  obtain ⟨rfl, hsz, hP, hK, hD0, hnw, henv⟩ := hv
  have hx := B.exec
  have hb := B.bytes
  have hr := B.returns
  have hT : ∀ w ∈ lw_good, w.before _ s = true := fun w h => atoms_spec (ws := w_Model_given) B.pre w (List.mem_cons_of_mem _ h)
  have hown : s.vm.findClass R_Model = some m.cls := findClass_of_methodNamed B.named
  subst hsz
  have hD := hD0.self (sz := s.heap.size)
  clear hD0
  generalize hAe : va_A (gW LM ad km T0) s.heap.size = A at hD henv ⊢
  have hA : ∀ q : Nat, s.heap.size ≤ q → A q := fun q h => by rw [← hAe]; exact Or.inr h
  have hS : va_S A s.heap s.heap [] := va_S.rf
  have hl := lv_entry ([.ref (ad 0), .int p1]) (n := 5) (Nat.le_of_ble_eq_true rfl)
  rw [lg_entry_eq]
  generalize (lg_sl ([.ref (ad 0), .int p1]) ++ List.replicate (5 - (lg_sl ([.ref (ad 0), .int p1])).length) Slot.unset).toArray = ls at hl ⊢
  have hl : lv_has ls 5 [(0, .ref (ad 0)), (1, .int p1)] := hl
  obtain ⟨G, hG⟩ : ∃ G : Nat → List (Nat × Value) → List Value → gSt → Prop, G = (fun pc lv stk T => ∀ (H : Heap) (locs : List Loc), va_P (dC, dI) cls_all (gW LM ad km T) H → va_D A (gW LM ad km T) → va_S A s.heap H locs → ∀ (ls : Array Slot), lv_has ls 5 lv → W p l e (headSpec w_Model_given (rmD (d + 1))).room s m ([.ref (ad 0), .int p1] : List Value).toArray below meth c H locs 0 0 (MQ below (va_Qi (fun (z : Int32) (_ : Unit) => z = r0) (fun _ t => gPost dC dI LM ad km T9 A t) A) ([.ref (ad 0), .int p1] : List Value).toArray s 0 0 A) (F0 m pc ls stk)) := ⟨_, rfl⟩
  have lb_165 : ∀ (rec_9 : gSt → Int32 → Int32 → gR) (hrec_9 : ∀ (T : gSt) (x2 : Int32) (x3 : Int32), rec_9 T x2 x3 = some (r0, rl0, T9) → G 9 [(0, .ref (ad 0)), (2, .int x2), (3, .int x3)] [] T) (T : gSt) (x2 : Int32) (x3 : Int32), rj_Model_given_165 F nf rec_9 T x2 x3 = some (r0, rl0, T9) → G 165 [(0, .ref (ad 0)), (2, .int x2), (3, .int x3)] [] T := by
    intro rec_9 hrec_9 T x2 x3 hR; unfold rj_Model_given_165 at hR; rw [hG]; intro H locs hP hD hS ls hl
    refine lv_aload_n hx hb d_Model_given_165 rfl (lv_at hl 0 rfl) ?_
    refine rd_Model_120 hx hb hT hown hK hP d_Model_given_166 ?_
    refine lv_iload_n hx hb d_Model_given_169 rfl (lv_at hl 2 rfl) ?_
    replace hR := gd_e hR
    obtain ⟨b38, hR⟩ := hR
    refine laM_35 hx hb hK hP b38 d_Model_given_170 ?_
    refine lv_bipush (v := 28) hx hb d_Model_given_171 (by decide) ?_
    refine lv_icmp_ne (tgt := 200) hx hb d_Model_given_173 (by decide) (fun c39 => ?_) (fun c39 => ?_)
    · replace hR := if_n c39 hR
      refine lv_aload_n hx hb d_Model_given_200 rfl (lv_at hl 0 rfl) ?_
      refine rd_Model_135 hx hb hT hown hK hP d_Model_given_201 ?_
      refine lv_iload_n hx hb d_Model_given_204 rfl (lv_at hl 2 rfl) ?_
      replace hR := gd_e hR
      obtain ⟨b40, hR⟩ := hR
      refine laM_40 hx hb hK hP b40 d_Model_given_205 ?_
      refine lv_topi (fun z41 e41 => ?_)
      replace hR := vK_e e41 hR
      refine lv_istore_n (lv' := [(3, .int z41), (0, .ref (ad 0)), (2, .int x2)]) hx hb d_Model_given_206 rfl hl (by decide) rfl (fun ls hl => ?_)
      refine lv_goto (tgt := 9) hx hb d_Model_given_207 (by decide) ?_
      have g := hrec_9 T x2 z41 hR
      rw [hG] at g
      exact g _ _ hP hD hS _ (lv_sub hl [1, 2, 0] rfl)
    · replace hR := if_p c39 hR
      refine lv_iload_n hx hb d_Model_given_176 rfl (lv_at hl 1 rfl) ?_
      refine lv_aload_n hx hb d_Model_given_177 rfl (lv_at hl 0 rfl) ?_
      refine lv_aload_n hx hb d_Model_given_178 rfl (lv_at hl 0 rfl) ?_
      refine rd_Model_126 hx hb hT hown hK hP d_Model_given_179 ?_
      refine lv_iload_n hx hb d_Model_given_182 rfl (lv_at hl 2 rfl) ?_
      replace hR := gd_e hR
      obtain ⟨b42, hR⟩ := hR
      refine laM_37 hx hb hK hP b42 d_Model_given_183 ?_
      replace hR := bi_e hR
      obtain ⟨r43, l43, T43, hc43, hR⟩ := hR
      refine gcV_i (rest := [.int x2]) ⟨hx, hb, hml, hown, hT⟩ (h_Model_given _ _ _ _ _ hc43) (cwV 1 hT (gV ml_Model_715 im_Model_given se_Model_given ini_Model co_Model_given) rfl rfl rfl pd_Model_given ⟨rm_hi, rm_lo (Nat.le_of_ble_eq_true rfl)⟩) hK hP hD hS hA hnw henv (Nat.le_of_ble_eq_true rfl) rfl rfl hl.1 rfl (Nat.le_of_ble_eq_true rfl) d_Model_given_184 ⟨Nat.le_refl _, Nat.le_refl _⟩ (fun H locs hP hD hS => ?_)
      clear hc43
      refine lv_aload_n hx hb d_Model_given_187 rfl (lv_at hl 0 rfl) ?_
      refine lv_aload_n hx hb d_Model_given_188 rfl (lv_at hl 0 rfl) ?_
      refine rd_Model_129 hx hb hT hown hK hP d_Model_given_189 ?_
      refine lv_iload_n hx hb d_Model_given_192 rfl (lv_at hl 2 rfl) ?_
      replace hR := gd_e hR
      obtain ⟨b44, hR⟩ := hR
      refine laM_38 hx hb hK hP b44 d_Model_given_193 ?_
      replace hR := bi_e hR
      obtain ⟨r45, l45, T45, hc45, hR⟩ := hR
      refine gcV_i (rest := [.int r43, .int x2]) ⟨hx, hb, hml, hown, hT⟩ (h_Model_given _ _ _ _ _ hc45) (cwV 1 hT (gV ml_Model_715 im_Model_given se_Model_given ini_Model co_Model_given) rfl rfl rfl pd_Model_given ⟨rm_hi, rm_lo (Nat.le_of_ble_eq_true rfl)⟩) hK hP hD hS hA hnw henv (Nat.le_of_ble_eq_true rfl) rfl rfl hl.1 rfl (Nat.le_of_ble_eq_true rfl) d_Model_given_194 ⟨Nat.le_refl _, Nat.le_refl _⟩ (fun H locs hP hD hS => ?_)
      clear hc45
      refine lv_ior hx hb d_Model_given_197 ?_
      refine lv_ior hx hb d_Model_given_198 ?_
      refine lv_topi (fun z46 e46 => ?_)
      replace hR := vK_e e46 hR
      refine lv_istore_n (lv' := [(2, .int z46), (0, .ref (ad 0)), (3, .int x3)]) hx hb d_Model_given_199 rfl hl (by decide) rfl (fun ls hl => ?_)
      refine lv_aload_n hx hb d_Model_given_200 rfl (lv_at hl 1 rfl) ?_
      refine rd_Model_135 hx hb hT hown hK hP d_Model_given_201 ?_
      refine lv_iload_n hx hb d_Model_given_204 rfl (lv_at hl 2 rfl) ?_
      replace hR := gd_e hR
      obtain ⟨b47, hR⟩ := hR
      refine laM_40 hx hb hK hP b47 d_Model_given_205 ?_
      refine lv_topi (fun z48 e48 => ?_)
      replace hR := vK_e e48 hR
      refine lv_istore_n (lv' := [(3, .int z48), (2, .int z46), (0, .ref (ad 0))]) hx hb d_Model_given_206 rfl hl (by decide) rfl (fun ls hl => ?_)
      refine lv_goto (tgt := 9) hx hb d_Model_given_207 (by decide) ?_
      have g := hrec_9 T45 z46 z48 hR
      rw [hG] at g
      exact g _ _ hP hD hS _ (lv_sub hl [2, 1, 0] rfl)
  have lb_141 : ∀ (rec_9 : gSt → Int32 → Int32 → gR) (hrec_9 : ∀ (T : gSt) (x2 : Int32) (x3 : Int32), rec_9 T x2 x3 = some (r0, rl0, T9) → G 9 [(0, .ref (ad 0)), (2, .int x2), (3, .int x3)] [] T) (T : gSt) (x2 : Int32) (x3 : Int32), rj_Model_given_141 F nf rec_9 T x2 x3 = some (r0, rl0, T9) → G 141 [(0, .ref (ad 0)), (2, .int x2), (3, .int x3)] [] T := by
    intro rec_9 hrec_9 T x2 x3 hR; unfold rj_Model_given_141 at hR; rw [hG]; intro H locs hP hD hS ls hl
    refine lv_aload_n hx hb d_Model_given_141 rfl (lv_at hl 0 rfl) ?_
    refine rd_Model_120 hx hb hT hown hK hP d_Model_given_142 ?_
    refine lv_iload_n hx hb d_Model_given_145 rfl (lv_at hl 2 rfl) ?_
    replace hR := gd_e hR
    obtain ⟨b33, hR⟩ := hR
    refine laM_35 hx hb hK hP b33 d_Model_given_146 ?_
    refine lv_bipush (v := 26) hx hb d_Model_given_147 (by decide) ?_
    refine lv_icmp_ne (tgt := 165) hx hb d_Model_given_149 (by decide) (fun c34 => ?_) (fun c34 => ?_)
    · replace hR := if_n c34 hR
      have g := lb_165 rec_9 hrec_9 T x2 x3 hR
      rw [hG] at g
      exact g _ _ hP hD hS _ (lv_sub hl [0, 1, 2] rfl)
    · replace hR := if_p c34 hR
      refine lv_iload_n hx hb d_Model_given_152 rfl (lv_at hl 1 rfl) ?_
      refine lv_aload_n hx hb d_Model_given_153 rfl (lv_at hl 0 rfl) ?_
      refine lv_aload_n hx hb d_Model_given_154 rfl (lv_at hl 0 rfl) ?_
      refine rd_Model_126 hx hb hT hown hK hP d_Model_given_155 ?_
      refine lv_iload_n hx hb d_Model_given_158 rfl (lv_at hl 2 rfl) ?_
      replace hR := gd_e hR
      obtain ⟨b35, hR⟩ := hR
      refine laM_37 hx hb hK hP b35 d_Model_given_159 ?_
      replace hR := bi_e hR
      obtain ⟨r36, l36, T36, hc36, hR⟩ := hR
      refine gcV_i (rest := [.int x2]) ⟨hx, hb, hml, hown, hT⟩ (h_Model_given _ _ _ _ _ hc36) (cwV 1 hT (gV ml_Model_715 im_Model_given se_Model_given ini_Model co_Model_given) rfl rfl rfl pd_Model_given ⟨rm_hi, rm_lo (Nat.le_of_ble_eq_true rfl)⟩) hK hP hD hS hA hnw henv (Nat.le_of_ble_eq_true rfl) rfl rfl hl.1 rfl (Nat.le_of_ble_eq_true rfl) d_Model_given_160 ⟨Nat.le_refl _, Nat.le_refl _⟩ (fun H locs hP hD hS => ?_)
      clear hc36
      refine lv_ior hx hb d_Model_given_163 ?_
      refine lv_topi (fun z37 e37 => ?_)
      replace hR := vK_e e37 hR
      refine lv_istore_n (lv' := [(2, .int z37), (0, .ref (ad 0)), (3, .int x3)]) hx hb d_Model_given_164 rfl hl (by decide) rfl (fun ls hl => ?_)
      have g := lb_165 rec_9 hrec_9 T36 z37 x3 hR
      rw [hG] at g
      exact g _ _ hP hD hS _ (lv_sub hl [1, 0, 2] rfl)
  have lb_108 : ∀ (rec_9 : gSt → Int32 → Int32 → gR) (hrec_9 : ∀ (T : gSt) (x2 : Int32) (x3 : Int32), rec_9 T x2 x3 = some (r0, rl0, T9) → G 9 [(0, .ref (ad 0)), (2, .int x2), (3, .int x3)] [] T) (T : gSt) (x2 : Int32) (x3 : Int32), rj_Model_given_108 F nf rec_9 T x2 x3 = some (r0, rl0, T9) → G 108 [(0, .ref (ad 0)), (2, .int x2), (3, .int x3)] [] T := by
    intro rec_9 hrec_9 T x2 x3 hR; unfold rj_Model_given_108 at hR; rw [hG]; intro H locs hP hD hS ls hl
    refine lv_aload_n hx hb d_Model_given_108 rfl (lv_at hl 0 rfl) ?_
    refine rd_Model_120 hx hb hT hown hK hP d_Model_given_109 ?_
    refine lv_iload_n hx hb d_Model_given_112 rfl (lv_at hl 2 rfl) ?_
    replace hR := gd_e hR
    obtain ⟨b26, hR⟩ := hR
    refine laM_35 hx hb hK hP b26 d_Model_given_113 ?_
    refine lv_bipush (v := 21) hx hb d_Model_given_114 (by decide) ?_
    refine lv_icmp_ne (tgt := 141) hx hb d_Model_given_116 (by decide) (fun c27 => ?_) (fun c27 => ?_)
    · replace hR := if_n c27 hR
      have g := lb_141 rec_9 hrec_9 T x2 x3 hR
      rw [hG] at g
      exact g _ _ hP hD hS _ (lv_sub hl [0, 1, 2] rfl)
    · replace hR := if_p c27 hR
      refine lv_aload_n hx hb d_Model_given_119 rfl (lv_at hl 0 rfl) ?_
      refine rd_Model_132 hx hb hT hown hK hP d_Model_given_120 ?_
      refine lv_iload_n hx hb d_Model_given_123 rfl (lv_at hl 2 rfl) ?_
      replace hR := gd_e hR
      obtain ⟨b28, hR⟩ := hR
      refine laM_39 hx hb hK hP b28 d_Model_given_124 ?_
      refine lv_if_lt (tgt := 141) hx hb d_Model_given_125 (by decide) (fun c29 => ?_) (fun c29 => ?_)
      · replace hR := if_p c29 hR
        have g := lb_141 rec_9 hrec_9 T x2 x3 hR
        rw [hG] at g
        exact g _ _ hP hD hS _ (lv_sub hl [0, 1, 2] rfl)
      · replace hR := if_n c29 hR
        refine lv_iload_n hx hb d_Model_given_128 rfl (lv_at hl 1 rfl) ?_
        refine lv_aload_n hx hb d_Model_given_129 rfl (lv_at hl 0 rfl) ?_
        refine lv_aload_n hx hb d_Model_given_130 rfl (lv_at hl 0 rfl) ?_
        refine rd_Model_132 hx hb hT hown hK hP d_Model_given_131 ?_
        refine lv_iload_n hx hb d_Model_given_134 rfl (lv_at hl 2 rfl) ?_
        replace hR := gd_e hR
        obtain ⟨b30, hR⟩ := hR
        refine laM_39 hx hb hK hP b30 d_Model_given_135 ?_
        replace hR := bi_e hR
        obtain ⟨r31, l31, T31, hc31, hR⟩ := hR
        refine gcV_i (rest := [.int x2]) ⟨hx, hb, hml, hown, hT⟩ (h_Model_given _ _ _ _ _ hc31) (cwV 1 hT (gV ml_Model_715 im_Model_given se_Model_given ini_Model co_Model_given) rfl rfl rfl pd_Model_given ⟨rm_hi, rm_lo (Nat.le_of_ble_eq_true rfl)⟩) hK hP hD hS hA hnw henv (Nat.le_of_ble_eq_true rfl) rfl rfl hl.1 rfl (Nat.le_of_ble_eq_true rfl) d_Model_given_136 ⟨Nat.le_refl _, Nat.le_refl _⟩ (fun H locs hP hD hS => ?_)
        clear hc31
        refine lv_ior hx hb d_Model_given_139 ?_
        refine lv_topi (fun z32 e32 => ?_)
        replace hR := vK_e e32 hR
        refine lv_istore_n (lv' := [(2, .int z32), (0, .ref (ad 0)), (3, .int x3)]) hx hb d_Model_given_140 rfl hl (by decide) rfl (fun ls hl => ?_)
        have g := lb_141 rec_9 hrec_9 T31 z32 x3 hR
        rw [hG] at g
        exact g _ _ hP hD hS _ (lv_sub hl [1, 0, 2] rfl)
  have lb_73 : ∀ (rec_9 : gSt → Int32 → Int32 → gR) (hrec_9 : ∀ (T : gSt) (x2 : Int32) (x3 : Int32), rec_9 T x2 x3 = some (r0, rl0, T9) → G 9 [(0, .ref (ad 0)), (2, .int x2), (3, .int x3)] [] T) (T : gSt) (x2 : Int32) (x3 : Int32), rj_Model_given_73 F nf rec_9 T x2 x3 = some (r0, rl0, T9) → G 73 [(0, .ref (ad 0)), (2, .int x2), (3, .int x3)] [] T := by
    intro rec_9 hrec_9 T x2 x3 hR; unfold rj_Model_given_73 at hR; rw [hG]; intro H locs hP hD hS ls hl
    refine lv_aload_n hx hb d_Model_given_73 rfl (lv_at hl 0 rfl) ?_
    refine rd_Model_120 hx hb hT hown hK hP d_Model_given_74 ?_
    refine lv_iload_n hx hb d_Model_given_77 rfl (lv_at hl 2 rfl) ?_
    replace hR := gd_e hR
    obtain ⟨b16, hR⟩ := hR
    refine laM_35 hx hb hK hP b16 d_Model_given_78 ?_
    refine lv_bipush (v := 21) hx hb d_Model_given_79 (by decide) ?_
    refine lv_icmp_eq (tgt := 95) hx hb d_Model_given_81 (by decide) (fun c17 => ?_) (fun c17 => ?_)
    · replace hR := if_p c17 hR
      refine lv_iload_n hx hb d_Model_given_95 rfl (lv_at hl 1 rfl) ?_
      refine lv_aload_n hx hb d_Model_given_96 rfl (lv_at hl 0 rfl) ?_
      refine lv_aload_n hx hb d_Model_given_97 rfl (lv_at hl 0 rfl) ?_
      refine rd_Model_129 hx hb hT hown hK hP d_Model_given_98 ?_
      refine lv_iload_n hx hb d_Model_given_101 rfl (lv_at hl 2 rfl) ?_
      replace hR := gd_e hR
      obtain ⟨b18, hR⟩ := hR
      refine laM_38 hx hb hK hP b18 d_Model_given_102 ?_
      replace hR := bi_e hR
      obtain ⟨r19, l19, T19, hc19, hR⟩ := hR
      refine gcV_i (rest := [.int x2]) ⟨hx, hb, hml, hown, hT⟩ (h_Model_given _ _ _ _ _ hc19) (cwV 1 hT (gV ml_Model_715 im_Model_given se_Model_given ini_Model co_Model_given) rfl rfl rfl pd_Model_given ⟨rm_hi, rm_lo (Nat.le_of_ble_eq_true rfl)⟩) hK hP hD hS hA hnw henv (Nat.le_of_ble_eq_true rfl) rfl rfl hl.1 rfl (Nat.le_of_ble_eq_true rfl) d_Model_given_103 ⟨Nat.le_refl _, Nat.le_refl _⟩ (fun H locs hP hD hS => ?_)
      clear hc19
      refine lv_ior hx hb d_Model_given_106 ?_
      refine lv_topi (fun z20 e20 => ?_)
      replace hR := vK_e e20 hR
      refine lv_istore_n (lv' := [(2, .int z20), (0, .ref (ad 0)), (3, .int x3)]) hx hb d_Model_given_107 rfl hl (by decide) rfl (fun ls hl => ?_)
      have g := lb_108 rec_9 hrec_9 T19 z20 x3 hR
      rw [hG] at g
      exact g _ _ hP hD hS _ (lv_sub hl [1, 0, 2] rfl)
    · replace hR := if_n c17 hR
      refine lv_aload_n hx hb d_Model_given_84 rfl (lv_at hl 0 rfl) ?_
      refine rd_Model_120 hx hb hT hown hK hP d_Model_given_85 ?_
      refine lv_iload_n hx hb d_Model_given_88 rfl (lv_at hl 2 rfl) ?_
      replace hR := gd_e hR
      obtain ⟨b21, hR⟩ := hR
      refine laM_35 hx hb hK hP b21 d_Model_given_89 ?_
      refine lv_bipush (v := 22) hx hb d_Model_given_90 (by decide) ?_
      refine lv_icmp_ne (tgt := 108) hx hb d_Model_given_92 (by decide) (fun c22 => ?_) (fun c22 => ?_)
      · replace hR := if_n c22 hR
        have g := lb_108 rec_9 hrec_9 T x2 x3 hR
        rw [hG] at g
        exact g _ _ hP hD hS _ (lv_sub hl [0, 1, 2] rfl)
      · replace hR := if_p c22 hR
        refine lv_iload_n hx hb d_Model_given_95 rfl (lv_at hl 1 rfl) ?_
        refine lv_aload_n hx hb d_Model_given_96 rfl (lv_at hl 0 rfl) ?_
        refine lv_aload_n hx hb d_Model_given_97 rfl (lv_at hl 0 rfl) ?_
        refine rd_Model_129 hx hb hT hown hK hP d_Model_given_98 ?_
        refine lv_iload_n hx hb d_Model_given_101 rfl (lv_at hl 2 rfl) ?_
        replace hR := gd_e hR
        obtain ⟨b23, hR⟩ := hR
        refine laM_38 hx hb hK hP b23 d_Model_given_102 ?_
        replace hR := bi_e hR
        obtain ⟨r24, l24, T24, hc24, hR⟩ := hR
        refine gcV_i (rest := [.int x2]) ⟨hx, hb, hml, hown, hT⟩ (h_Model_given _ _ _ _ _ hc24) (cwV 1 hT (gV ml_Model_715 im_Model_given se_Model_given ini_Model co_Model_given) rfl rfl rfl pd_Model_given ⟨rm_hi, rm_lo (Nat.le_of_ble_eq_true rfl)⟩) hK hP hD hS hA hnw henv (Nat.le_of_ble_eq_true rfl) rfl rfl hl.1 rfl (Nat.le_of_ble_eq_true rfl) d_Model_given_103 ⟨Nat.le_refl _, Nat.le_refl _⟩ (fun H locs hP hD hS => ?_)
        clear hc24
        refine lv_ior hx hb d_Model_given_106 ?_
        refine lv_topi (fun z25 e25 => ?_)
        replace hR := vK_e e25 hR
        refine lv_istore_n (lv' := [(2, .int z25), (0, .ref (ad 0)), (3, .int x3)]) hx hb d_Model_given_107 rfl hl (by decide) rfl (fun ls hl => ?_)
        have g := lb_108 rec_9 hrec_9 T24 z25 x3 hR
        rw [hG] at g
        exact g _ _ hP hD hS _ (lv_sub hl [1, 0, 2] rfl)
  have lb_9 : ∀ (n : Nat) (T : gSt) (x2 : Int32) (x3 : Int32), rl_Model_given_9 F nf n T x2 x3 = some (r0, rl0, T9) → G 9 [(0, .ref (ad 0)), (2, .int x2), (3, .int x3)] [] T := by
    intro n
    induction n with
    | zero => intro T x2 x3 hR; rw [rl_Model_given_9] at hR; cases hR
    | succ n ih =>
      intro T x2 x3 hR; rw [rl_Model_given_9] at hR; rw [hG]; intro H locs hP hD hS ls hl
      refine lv_iload_n hx hb d_Model_given_9 rfl (lv_at hl 2 rfl) ?_
      refine lv_if_lt (tgt := 210) hx hb d_Model_given_10 (by decide) (fun c3 => ?_) (fun c3 => ?_)
      · replace hR := if_p c3 hR
        refine lv_iload_n hx hb d_Model_given_210 rfl (lv_at hl 1 rfl) ?_
        obtain ⟨e1, -, e3⟩ := re_e hR
        subst e1; subst e3
        exact W.iret (v := x2) hx hb hr (fun t ht hW => ⟨⟨x2, (), rfl, rfl, by rw [ht]; exact hP, va_K.moved hW.alike hK, hD⟩, hS.F ht⟩) hS.2.2 d_Model_given_211
      · replace hR := if_n c3 hR
        refine lv_aload_n hx hb d_Model_given_13 rfl (lv_at hl 0 rfl) ?_
        refine rd_Model_120 hx hb hT hown hK hP d_Model_given_14 ?_
        refine lv_iload_n hx hb d_Model_given_17 rfl (lv_at hl 2 rfl) ?_
        replace hR := gd_e hR
        obtain ⟨b5, hR⟩ := hR
        refine laM_35 hx hb hK hP b5 d_Model_given_18 ?_
        refine lv_bipush (v := 29) hx hb d_Model_given_19 (by decide) ?_
        refine lv_icmp_ne (tgt := 73) hx hb d_Model_given_21 (by decide) (fun c6 => ?_) (fun c6 => ?_)
        · replace hR := if_n c6 hR
          have g := lb_73 (rl_Model_given_9 F nf n) ih T x2 x3 hR
          rw [hG] at g
          exact g _ _ hP hD hS _ (lv_sub hl [0, 1, 2] rfl)
        · replace hR := if_p c6 hR
          refine lv_aload_n hx hb d_Model_given_24 rfl (lv_at hl 0 rfl) ?_
          refine rd_Model_120 hx hb hT hown hK hP d_Model_given_25 ?_
          refine lv_aload_n hx hb d_Model_given_28 rfl (lv_at hl 0 rfl) ?_
          refine rd_Model_126 hx hb hT hown hK hP d_Model_given_29 ?_
          refine lv_iload_n hx hb d_Model_given_32 rfl (lv_at hl 2 rfl) ?_
          replace hR := gd_e hR
          obtain ⟨b7, hR⟩ := hR
          refine laM_37 hx hb hK hP b7 d_Model_given_33 ?_
          replace hR := gd_e hR
          obtain ⟨b8, hR⟩ := hR
          refine laM_35 hx hb hK hP b8 d_Model_given_34 ?_
          refine lv_iconst (v := 4) hx hb d_Model_given_35 (by decide) ?_
          refine lv_icmp_ne (tgt := 73) hx hb d_Model_given_36 (by decide) (fun c9 => ?_) (fun c9 => ?_)
          · replace hR := if_n c9 hR
            have g := lb_73 (rl_Model_given_9 F nf n) ih T x2 x3 hR
            rw [hG] at g
            exact g _ _ hP hD hS _ (lv_sub hl [0, 1, 2] rfl)
          · replace hR := if_p c9 hR
            refine lv_aload_n hx hb d_Model_given_39 rfl (lv_at hl 0 rfl) ?_
            refine lv_aload_n hx hb d_Model_given_40 rfl (lv_at hl 0 rfl) ?_
            refine rd_Model_138 hx hb hT hown hK hP d_Model_given_41 ?_
            refine lv_aload_n hx hb d_Model_given_44 rfl (lv_at hl 0 rfl) ?_
            refine rd_Model_126 hx hb hT hown hK hP d_Model_given_45 ?_
            refine lv_iload_n hx hb d_Model_given_48 rfl (lv_at hl 2 rfl) ?_
            replace hR := gd_e hR
            obtain ⟨b10, hR⟩ := hR
            refine laM_37 hx hb hK hP b10 d_Model_given_49 ?_
            replace hR := gd_e hR
            obtain ⟨b11, hR⟩ := hR
            refine laM_41 hx hb hK hP b11 d_Model_given_50 ?_
            replace hR := bi_e hR
            obtain ⟨r12, l12, T12, hc12, hR⟩ := hR
            refine gcV_i (rest := []) ⟨hx, hb, hml, hown, hT⟩ (h_Model_findVar _ _ _ _ _ hc12) (cwV 1 hT (gV ml_Model_691 im_Model_findVar se_Model_findVar ini_Model co_Model_findVar) rfl rfl rfl pd_Model_findVar ⟨rm_hi, rm_lo (Nat.le_of_ble_eq_true rfl)⟩) hK hP hD hS hA hnw henv (Nat.le_of_ble_eq_true rfl) rfl rfl hl.1 rfl (Nat.le_of_ble_eq_true rfl) d_Model_given_51 ⟨Nat.le_refl _, Nat.le_refl _⟩ (fun H locs hP hD hS => ?_)
            clear hc12
            refine lv_istore (lv' := [(4, .int r12), (0, .ref (ad 0)), (2, .int x2), (3, .int x3)]) hx hb d_Model_given_54 hl (by decide) rfl (fun ls hl => ?_)
            refine lv_iload hx hb d_Model_given_56 (lv_at hl 0 rfl) ?_
            refine lv_if_lt (tgt := 73) hx hb d_Model_given_58 (by decide) (fun c13 => ?_) (fun c13 => ?_)
            · replace hR := if_p c13 hR
              have g := lb_73 (rl_Model_given_9 F nf n) ih T12 x2 x3 hR
              rw [hG] at g
              exact g _ _ hP hD hS _ (lv_sub hl [1, 2, 3] rfl)
            · replace hR := if_n c13 hR
              refine lv_iload_n hx hb d_Model_given_61 rfl (lv_at hl 2 rfl) ?_
              refine lv_iconst (v := 1) hx hb d_Model_given_62 (by decide) ?_
              refine lv_aload_n hx hb d_Model_given_63 rfl (lv_at hl 1 rfl) ?_
              refine rd_Model_183 hx hb hT hown hK hP d_Model_given_64 ?_
              refine lv_iload hx hb d_Model_given_67 (lv_at hl 0 rfl) ?_
              replace hR := gd_e hR
              obtain ⟨b14, hR⟩ := hR
              refine laM_56 hx hb hK hP b14 d_Model_given_69 ?_
              refine lv_ishl hx hb d_Model_given_70 ?_
              refine lv_ior hx hb d_Model_given_71 ?_
              refine lv_topi (fun z15 e15 => ?_)
              replace hR := vK_e e15 hR
              refine lv_istore_n (lv' := [(2, .int z15), (4, .int r12), (0, .ref (ad 0)), (3, .int x3)]) hx hb d_Model_given_72 rfl hl (by decide) rfl (fun ls hl => ?_)
              have g := lb_73 (rl_Model_given_9 F nf n) ih T12 z15 x3 hR
              rw [hG] at g
              exact g _ _ hP hD hS _ (lv_sub hl [2, 0, 3] rfl)
  unfold rb_Model_given at hR
  refine lv_iconst (v := 0) hx hb d_Model_given_0 (by decide) ?_
  refine lv_istore_n (lv' := [(2, .int (0 : Int32)), (0, .ref (ad 0)), (1, .int p1)]) hx hb d_Model_given_1 rfl hl (by decide) rfl (fun ls hl => ?_)
  refine lv_aload_n hx hb d_Model_given_2 rfl (lv_at hl 1 rfl) ?_
  refine rd_Model_126 hx hb hT hown hK hP d_Model_given_3 ?_
  refine lv_iload_n hx hb d_Model_given_6 rfl (lv_at hl 2 rfl) ?_
  replace hR := gd_e hR
  obtain ⟨b1, hR⟩ := hR
  refine laM_37 hx hb hK hP b1 d_Model_given_7 ?_
  refine lv_topi (fun z2 e2 => ?_)
  replace hR := vK_e e2 hR
  refine lv_istore_n (lv' := [(3, .int z2), (2, .int (0 : Int32)), (0, .ref (ad 0)), (1, .int p1)]) hx hb d_Model_given_8 rfl hl (by decide) rfl (fun ls hl => ?_)
  have g := lb_9 nf T0 (0 : Int32) z2 hR
  rw [hG] at g
  exact g _ _ hP hD hS _ (lv_sub hl [2, 1, 0] rfl)
