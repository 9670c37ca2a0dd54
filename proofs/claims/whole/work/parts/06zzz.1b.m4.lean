abbrev b_Model_isLeft : ByteArray := prog_14_method_88_code
abbrev y_Model_isLeft : MethodName := ⟨R_Model, "isLeft", "(I)Z"⟩
theorem co_Model_isLeft : Cond.code y_Model_isLeft b_Model_isLeft 1 (some .boolean) ∈ lw_good := lg_in (tin_11 _ (List.mem_of_getElem? (i := 151) rfl)) rfl
abbrev w_Model_isLeft : List Cond := Cond.code y_Model_isLeft b_Model_isLeft 1 (some .boolean) :: lw_good
theorem st_Model_isLeft : Cond.static y_Model_isLeft ∈ lw_good := lg_right (i := 2550) (by decide +kernel) rfl
theorem d_Model_isLeft_0 : decode b_Model_isLeft 0 = .ok (.iload_n 0, 1) := by decide +kernel
theorem d_Model_isLeft_1 : decode b_Model_isLeft 1 = .ok (.bipush 13, 2) := by decide +kernel
theorem d_Model_isLeft_3 : decode b_Model_isLeft 3 = .ok (.if_icmp .eq 27, 3) := by decide +kernel
theorem d_Model_isLeft_6 : decode b_Model_isLeft 6 = .ok (.iload_n 0, 1) := by decide +kernel
theorem d_Model_isLeft_7 : decode b_Model_isLeft 7 = .ok (.bipush 14, 2) := by decide +kernel
theorem d_Model_isLeft_9 : decode b_Model_isLeft 9 = .ok (.if_icmp .eq 21, 3) := by decide +kernel
theorem d_Model_isLeft_12 : decode b_Model_isLeft 12 = .ok (.iload_n 0, 1) := by decide +kernel
theorem d_Model_isLeft_13 : decode b_Model_isLeft 13 = .ok (.bipush 15, 2) := by decide +kernel
theorem d_Model_isLeft_15 : decode b_Model_isLeft 15 = .ok (.if_icmp .eq 15, 3) := by decide +kernel
theorem d_Model_isLeft_18 : decode b_Model_isLeft 18 = .ok (.iload_n 0, 1) := by decide +kernel
theorem d_Model_isLeft_19 : decode b_Model_isLeft 19 = .ok (.bipush 16, 2) := by decide +kernel
theorem d_Model_isLeft_21 : decode b_Model_isLeft 21 = .ok (.if_icmp .eq 9, 3) := by decide +kernel
theorem d_Model_isLeft_24 : decode b_Model_isLeft 24 = .ok (.iload_n 0, 1) := by decide +kernel
theorem d_Model_isLeft_25 : decode b_Model_isLeft 25 = .ok (.bipush 17, 2) := by decide +kernel
theorem d_Model_isLeft_27 : decode b_Model_isLeft 27 = .ok (.if_icmp .ne 7, 3) := by decide +kernel
theorem d_Model_isLeft_30 : decode b_Model_isLeft 30 = .ok (.iconst 1, 1) := by decide +kernel
theorem d_Model_isLeft_31 : decode b_Model_isLeft 31 = .ok (.goto 4, 3) := by decide +kernel
theorem d_Model_isLeft_34 : decode b_Model_isLeft 34 = .ok (.iconst 0, 1) := by decide +kernel
theorem d_Model_isLeft_35 : decode b_Model_isLeft 35 = .ok (.ireturn, 1) := by decide +kernel
abbrev b_Model_checkKind : ByteArray := prog_14_method_90_code
abbrev y_Model_checkKind : MethodName := ⟨R_Model, "checkKind", "(I)I"⟩
theorem co_Model_checkKind : Cond.code y_Model_checkKind b_Model_checkKind 3 (some .int) ∈ lw_good := lg_in (tin_11 _ (List.mem_of_getElem? (i := 155) rfl)) rfl
abbrev w_Model_checkKind : List Cond := Cond.code y_Model_checkKind b_Model_checkKind 3 (some .int) :: lw_good
theorem im_Model_checkKind : Cond.instanceMethod y_Model_checkKind ∈ lw_good := lg_right (i := 2554) (by decide +kernel) rfl
theorem se_Model_checkKind : Cond.selects R_Model y_Model_checkKind y_Model_checkKind ∈ lw_good := lg_left (i := 166) (by decide +kernel) rfl
theorem d_Model_checkKind_0 : decode b_Model_checkKind 0 = .ok (.aload_n 0, 1) := by decide +kernel
theorem d_Model_checkKind_1 : decode b_Model_checkKind 1 = .ok (.getfield 120, 3) := by decide +kernel
theorem d_Model_checkKind_4 : decode b_Model_checkKind 4 = .ok (.iload_n 1, 1) := by decide +kernel
theorem d_Model_checkKind_5 : decode b_Model_checkKind 5 = .ok (.iaload, 1) := by decide +kernel
theorem d_Model_checkKind_6 : decode b_Model_checkKind 6 = .ok (.tableswitch 305 0 15 #[78, 80, 78, 83, 114, 120, 126, 126, 132, 132, 138, 144, 249, 293, 305, 299], 78) := by decide +kernel
theorem d_Model_checkKind_84 : decode b_Model_checkKind 84 = .ok (.iconst 0, 1) := by decide +kernel
theorem d_Model_checkKind_85 : decode b_Model_checkKind 85 = .ok (.ireturn, 1) := by decide +kernel
theorem d_Model_checkKind_86 : decode b_Model_checkKind 86 = .ok (.bipush (-2), 2) := by decide +kernel
theorem d_Model_checkKind_88 : decode b_Model_checkKind 88 = .ok (.ireturn, 1) := by decide +kernel
theorem d_Model_checkKind_89 : decode b_Model_checkKind 89 = .ok (.aload_n 0, 1) := by decide +kernel
theorem d_Model_checkKind_90 : decode b_Model_checkKind 90 = .ok (.getfield 640, 3) := by decide +kernel
theorem d_Model_checkKind_93 : decode b_Model_checkKind 93 = .ok (.ifCond .ne 15, 3) := by decide +kernel
theorem d_Model_checkKind_96 : decode b_Model_checkKind 96 = .ok (.aload_n 0, 1) := by decide +kernel
theorem d_Model_checkKind_97 : decode b_Model_checkKind 97 = .ok (.bipush 8, 2) := by decide +kernel
theorem d_Model_checkKind_99 : decode b_Model_checkKind 99 = .ok (.aload_n 0, 1) := by decide +kernel
theorem d_Model_checkKind_100 : decode b_Model_checkKind 100 = .ok (.getfield 123, 3) := by decide +kernel
theorem d_Model_checkKind_103 : decode b_Model_checkKind 103 = .ok (.iload_n 1, 1) := by decide +kernel
theorem d_Model_checkKind_104 : decode b_Model_checkKind 104 = .ok (.iaload, 1) := by decide +kernel
theorem d_Model_checkKind_105 : decode b_Model_checkKind 105 = .ok (.invokevirtual 381, 3) := by decide +kernel
theorem d_Model_checkKind_108 : decode b_Model_checkKind 108 = .ok (.aload_n 0, 1) := by decide +kernel
theorem d_Model_checkKind_109 : decode b_Model_checkKind 109 = .ok (.getfield 153, 3) := by decide +kernel
theorem d_Model_checkKind_112 : decode b_Model_checkKind 112 = .ok (.iload_n 1, 1) := by decide +kernel
theorem d_Model_checkKind_113 : decode b_Model_checkKind 113 = .ok (.aload_n 0, 1) := by decide +kernel
theorem d_Model_checkKind_114 : decode b_Model_checkKind 114 = .ok (.getfield 640, 3) := by decide +kernel
theorem d_Model_checkKind_117 : decode b_Model_checkKind 117 = .ok (.iastore, 1) := by decide +kernel
theorem d_Model_checkKind_118 : decode b_Model_checkKind 118 = .ok (.iconst 0, 1) := by decide +kernel
theorem d_Model_checkKind_119 : decode b_Model_checkKind 119 = .ok (.ireturn, 1) := by decide +kernel
theorem d_Model_checkKind_120 : decode b_Model_checkKind 120 = .ok (.aload_n 0, 1) := by decide +kernel
theorem d_Model_checkKind_121 : decode b_Model_checkKind 121 = .ok (.iload_n 1, 1) := by decide +kernel
theorem d_Model_checkKind_122 : decode b_Model_checkKind 122 = .ok (.invokevirtual 726, 3) := by decide +kernel
theorem ml_Model_726 : Cond.methodLink R_Model 726 ⟨"PointerHouseModel", "checkName", "(I)I"⟩ ∈ lw_good := lg_right (i := 2556) (by decide +kernel) rfl
theorem d_Model_checkKind_125 : decode b_Model_checkKind 125 = .ok (.ireturn, 1) := by decide +kernel
theorem d_Model_checkKind_126 : decode b_Model_checkKind 126 = .ok (.aload_n 0, 1) := by decide +kernel
theorem d_Model_checkKind_127 : decode b_Model_checkKind 127 = .ok (.iload_n 1, 1) := by decide +kernel
theorem d_Model_checkKind_128 : decode b_Model_checkKind 128 = .ok (.invokevirtual 729, 3) := by decide +kernel
theorem ml_Model_729 : Cond.methodLink R_Model 729 ⟨"PointerHouseModel", "checkCall", "(I)I"⟩ ∈ lw_good := lg_right (i := 2564) (by decide +kernel) rfl
theorem d_Model_checkKind_131 : decode b_Model_checkKind 131 = .ok (.ireturn, 1) := by decide +kernel
theorem d_Model_checkKind_132 : decode b_Model_checkKind 132 = .ok (.aload_n 0, 1) := by decide +kernel
theorem d_Model_checkKind_133 : decode b_Model_checkKind 133 = .ok (.iload_n 1, 1) := by decide +kernel
theorem d_Model_checkKind_134 : decode b_Model_checkKind 134 = .ok (.invokevirtual 732, 3) := by decide +kernel
theorem ml_Model_732 : Cond.methodLink R_Model 732 ⟨"PointerHouseModel", "checkNew", "(I)I"⟩ ∈ lw_good := lg_right (i := 2599) (by decide +kernel) rfl
theorem d_Model_checkKind_137 : decode b_Model_checkKind 137 = .ok (.ireturn, 1) := by decide +kernel
theorem d_Model_checkKind_138 : decode b_Model_checkKind 138 = .ok (.aload_n 0, 1) := by decide +kernel
theorem d_Model_checkKind_139 : decode b_Model_checkKind 139 = .ok (.iload_n 1, 1) := by decide +kernel
theorem d_Model_checkKind_140 : decode b_Model_checkKind 140 = .ok (.invokevirtual 735, 3) := by decide +kernel
theorem ml_Model_735 : Cond.methodLink R_Model 735 ⟨"PointerHouseModel", "checkMade", "(I)I"⟩ ∈ lw_good := lg_right (i := 2607) (by decide +kernel) rfl
theorem d_Model_checkKind_143 : decode b_Model_checkKind 143 = .ok (.ireturn, 1) := by decide +kernel
theorem d_Model_checkKind_144 : decode b_Model_checkKind 144 = .ok (.aload_n 0, 1) := by decide +kernel
theorem d_Model_checkKind_145 : decode b_Model_checkKind 145 = .ok (.iload_n 1, 1) := by decide +kernel
theorem d_Model_checkKind_146 : decode b_Model_checkKind 146 = .ok (.invokevirtual 738, 3) := by decide +kernel
theorem ml_Model_738 : Cond.methodLink R_Model 738 ⟨"PointerHouseModel", "checkAnd", "(I)I"⟩ ∈ lw_good := lg_right (i := 2615) (by decide +kernel) rfl
theorem d_Model_checkKind_149 : decode b_Model_checkKind 149 = .ok (.ireturn, 1) := by decide +kernel
theorem d_Model_checkKind_150 : decode b_Model_checkKind 150 = .ok (.aload_n 0, 1) := by decide +kernel
theorem d_Model_checkKind_151 : decode b_Model_checkKind 151 = .ok (.aload_n 0, 1) := by decide +kernel
theorem d_Model_checkKind_152 : decode b_Model_checkKind 152 = .ok (.getfield 126, 3) := by decide +kernel
theorem d_Model_checkKind_155 : decode b_Model_checkKind 155 = .ok (.iload_n 1, 1) := by decide +kernel
theorem d_Model_checkKind_156 : decode b_Model_checkKind 156 = .ok (.iaload, 1) := by decide +kernel
theorem d_Model_checkKind_157 : decode b_Model_checkKind 157 = .ok (.invokevirtual 652, 3) := by decide +kernel
theorem d_Model_checkKind_160 : decode b_Model_checkKind 160 = .ok (.istore_n 2, 1) := by decide +kernel
theorem d_Model_checkKind_161 : decode b_Model_checkKind 161 = .ok (.aload_n 0, 1) := by decide +kernel
theorem d_Model_checkKind_162 : decode b_Model_checkKind 162 = .ok (.invokevirtual 385, 3) := by decide +kernel
theorem d_Model_checkKind_165 : decode b_Model_checkKind 165 = .ok (.ifCond .ne 27, 3) := by decide +kernel
theorem d_Model_checkKind_168 : decode b_Model_checkKind 168 = .ok (.aload_n 0, 1) := by decide +kernel
theorem d_Model_checkKind_169 : decode b_Model_checkKind 169 = .ok (.iload_n 2, 1) := by decide +kernel
theorem d_Model_checkKind_170 : decode b_Model_checkKind 170 = .ok (.invokevirtual 560, 3) := by decide +kernel
theorem d_Model_checkKind_173 : decode b_Model_checkKind 173 = .ok (.ifCond .ne 19, 3) := by decide +kernel
theorem d_Model_checkKind_176 : decode b_Model_checkKind 176 = .ok (.aload_n 0, 1) := by decide +kernel
theorem d_Model_checkKind_177 : decode b_Model_checkKind 177 = .ok (.iconst 4, 1) := by decide +kernel
theorem d_Model_checkKind_178 : decode b_Model_checkKind 178 = .ok (.aload_n 0, 1) := by decide +kernel
theorem d_Model_checkKind_179 : decode b_Model_checkKind 179 = .ok (.getfield 123, 3) := by decide +kernel
theorem d_Model_checkKind_182 : decode b_Model_checkKind 182 = .ok (.aload_n 0, 1) := by decide +kernel
theorem d_Model_checkKind_183 : decode b_Model_checkKind 183 = .ok (.getfield 126, 3) := by decide +kernel
theorem d_Model_checkKind_186 : decode b_Model_checkKind 186 = .ok (.iload_n 1, 1) := by decide +kernel
theorem d_Model_checkKind_187 : decode b_Model_checkKind 187 = .ok (.iaload, 1) := by decide +kernel
theorem d_Model_checkKind_188 : decode b_Model_checkKind 188 = .ok (.iaload, 1) := by decide +kernel
theorem d_Model_checkKind_189 : decode b_Model_checkKind 189 = .ok (.invokevirtual 381, 3) := by decide +kernel
theorem d_Model_checkKind_192 : decode b_Model_checkKind 192 = .ok (.aload_n 0, 1) := by decide +kernel
theorem d_Model_checkKind_193 : decode b_Model_checkKind 193 = .ok (.invokevirtual 385, 3) := by decide +kernel
theorem d_Model_checkKind_196 : decode b_Model_checkKind 196 = .ok (.ifCond .eq 5, 3) := by decide +kernel
theorem d_Model_checkKind_199 : decode b_Model_checkKind 199 = .ok (.iconst 0, 1) := by decide +kernel
theorem d_Model_checkKind_200 : decode b_Model_checkKind 200 = .ok (.ireturn, 1) := by decide +kernel
theorem d_Model_checkKind_201 : decode b_Model_checkKind 201 = .ok (.aload_n 0, 1) := by decide +kernel
theorem d_Model_checkKind_202 : decode b_Model_checkKind 202 = .ok (.dup, 1) := by decide +kernel
theorem d_Model_checkKind_203 : decode b_Model_checkKind 203 = .ok (.getfield 741, 3) := by decide +kernel
theorem fl_Model_741 : Cond.fieldLink R_Model 741 "PointerHouseModel" "nulls" "I" ∈ lw_good := lg_right (i := 1907) (by decide +kernel) rfl
theorem d_Model_checkKind_206 : decode b_Model_checkKind 206 = .ok (.aload_n 0, 1) := by decide +kernel
theorem d_Model_checkKind_207 : decode b_Model_checkKind 207 = .ok (.getfield 156, 3) := by decide +kernel
theorem d_Model_checkKind_210 : decode b_Model_checkKind 210 = .ok (.iload_n 2, 1) := by decide +kernel
theorem d_Model_checkKind_211 : decode b_Model_checkKind 211 = .ok (.iaload, 1) := by decide +kernel
theorem d_Model_checkKind_212 : decode b_Model_checkKind 212 = .ok (.iconst 2, 1) := by decide +kernel
theorem d_Model_checkKind_213 : decode b_Model_checkKind 213 = .ok (.if_icmp .ne 7, 3) := by decide +kernel
theorem d_Model_checkKind_216 : decode b_Model_checkKind 216 = .ok (.iconst 1, 1) := by decide +kernel
theorem d_Model_checkKind_217 : decode b_Model_checkKind 217 = .ok (.goto 4, 3) := by decide +kernel
theorem d_Model_checkKind_220 : decode b_Model_checkKind 220 = .ok (.iconst 0, 1) := by decide +kernel
theorem d_Model_checkKind_221 : decode b_Model_checkKind 221 = .ok (.iadd, 1) := by decide +kernel
theorem d_Model_checkKind_222 : decode b_Model_checkKind 222 = .ok (.putfield 741, 3) := by decide +kernel
theorem d_Model_checkKind_225 : decode b_Model_checkKind 225 = .ok (.aload_n 0, 1) := by decide +kernel
theorem d_Model_checkKind_226 : decode b_Model_checkKind 226 = .ok (.iconst 1, 1) := by decide +kernel
theorem d_Model_checkKind_227 : decode b_Model_checkKind 227 = .ok (.aload_n 0, 1) := by decide +kernel
theorem d_Model_checkKind_228 : decode b_Model_checkKind 228 = .ok (.getfield 159, 3) := by decide +kernel
theorem d_Model_checkKind_231 : decode b_Model_checkKind 231 = .ok (.iload_n 2, 1) := by decide +kernel
theorem d_Model_checkKind_232 : decode b_Model_checkKind 232 = .ok (.iaload, 1) := by decide +kernel
theorem d_Model_checkKind_233 : decode b_Model_checkKind 233 = .ok (.aload_n 0, 1) := by decide +kernel
theorem d_Model_checkKind_234 : decode b_Model_checkKind 234 = .ok (.getfield 162, 3) := by decide +kernel
theorem d_Model_checkKind_237 : decode b_Model_checkKind 237 = .ok (.iload_n 2, 1) := by decide +kernel
theorem d_Model_checkKind_238 : decode b_Model_checkKind 238 = .ok (.iaload, 1) := by decide +kernel
theorem d_Model_checkKind_239 : decode b_Model_checkKind 239 = .ok (.aload_n 0, 1) := by decide +kernel
theorem d_Model_checkKind_240 : decode b_Model_checkKind 240 = .ok (.getfield 165, 3) := by decide +kernel
theorem d_Model_checkKind_243 : decode b_Model_checkKind 243 = .ok (.iload_n 2, 1) := by decide +kernel
theorem d_Model_checkKind_244 : decode b_Model_checkKind 244 = .ok (.iaload, 1) := by decide +kernel
theorem d_Model_checkKind_245 : decode b_Model_checkKind 245 = .ok (.aload_n 0, 1) := by decide +kernel
theorem d_Model_checkKind_246 : decode b_Model_checkKind 246 = .ok (.getfield 168, 3) := by decide +kernel
theorem d_Model_checkKind_249 : decode b_Model_checkKind 249 = .ok (.iload_n 2, 1) := by decide +kernel
theorem d_Model_checkKind_250 : decode b_Model_checkKind 250 = .ok (.iaload, 1) := by decide +kernel
theorem d_Model_checkKind_251 : decode b_Model_checkKind 251 = .ok (.invokevirtual 556, 3) := by decide +kernel
theorem d_Model_checkKind_254 : decode b_Model_checkKind 254 = .ok (.ireturn, 1) := by decide +kernel
theorem d_Model_checkKind_255 : decode b_Model_checkKind 255 = .ok (.aload_n 0, 1) := by decide +kernel
theorem d_Model_checkKind_256 : decode b_Model_checkKind 256 = .ok (.aload_n 0, 1) := by decide +kernel
theorem d_Model_checkKind_257 : decode b_Model_checkKind 257 = .ok (.getfield 126, 3) := by decide +kernel
theorem d_Model_checkKind_260 : decode b_Model_checkKind 260 = .ok (.iload_n 1, 1) := by decide +kernel
theorem d_Model_checkKind_261 : decode b_Model_checkKind 261 = .ok (.iaload, 1) := by decide +kernel
theorem d_Model_checkKind_262 : decode b_Model_checkKind 262 = .ok (.invokevirtual 652, 3) := by decide +kernel
theorem d_Model_checkKind_265 : decode b_Model_checkKind 265 = .ok (.istore_n 2, 1) := by decide +kernel
theorem d_Model_checkKind_266 : decode b_Model_checkKind 266 = .ok (.aload_n 0, 1) := by decide +kernel
theorem d_Model_checkKind_267 : decode b_Model_checkKind 267 = .ok (.invokevirtual 385, 3) := by decide +kernel
theorem d_Model_checkKind_270 : decode b_Model_checkKind 270 = .ok (.ifCond .ne 27, 3) := by decide +kernel
theorem d_Model_checkKind_273 : decode b_Model_checkKind 273 = .ok (.aload_n 0, 1) := by decide +kernel
theorem d_Model_checkKind_274 : decode b_Model_checkKind 274 = .ok (.iload_n 2, 1) := by decide +kernel
theorem d_Model_checkKind_275 : decode b_Model_checkKind 275 = .ok (.invokevirtual 744, 3) := by decide +kernel
theorem ml_Model_744 : Cond.methodLink R_Model 744 ⟨"PointerHouseModel", "isRow", "(I)Z"⟩ ∈ lw_good := lg_right (i := 2623) (by decide +kernel) rfl
theorem d_Model_checkKind_278 : decode b_Model_checkKind 278 = .ok (.ifCond .ne 19, 3) := by decide +kernel
theorem d_Model_checkKind_281 : decode b_Model_checkKind 281 = .ok (.aload_n 0, 1) := by decide +kernel
theorem d_Model_checkKind_282 : decode b_Model_checkKind 282 = .ok (.iconst 4, 1) := by decide +kernel
theorem d_Model_checkKind_283 : decode b_Model_checkKind 283 = .ok (.aload_n 0, 1) := by decide +kernel
theorem d_Model_checkKind_284 : decode b_Model_checkKind 284 = .ok (.getfield 123, 3) := by decide +kernel
theorem d_Model_checkKind_287 : decode b_Model_checkKind 287 = .ok (.aload_n 0, 1) := by decide +kernel
theorem d_Model_checkKind_288 : decode b_Model_checkKind 288 = .ok (.getfield 126, 3) := by decide +kernel
theorem d_Model_checkKind_291 : decode b_Model_checkKind 291 = .ok (.iload_n 1, 1) := by decide +kernel
theorem d_Model_checkKind_292 : decode b_Model_checkKind 292 = .ok (.iaload, 1) := by decide +kernel
theorem d_Model_checkKind_293 : decode b_Model_checkKind 293 = .ok (.iaload, 1) := by decide +kernel
theorem d_Model_checkKind_294 : decode b_Model_checkKind 294 = .ok (.invokevirtual 381, 3) := by decide +kernel
theorem d_Model_checkKind_297 : decode b_Model_checkKind 297 = .ok (.iconst 0, 1) := by decide +kernel
theorem d_Model_checkKind_298 : decode b_Model_checkKind 298 = .ok (.ireturn, 1) := by decide +kernel
theorem d_Model_checkKind_299 : decode b_Model_checkKind 299 = .ok (.aload_n 0, 1) := by decide +kernel
theorem d_Model_checkKind_300 : decode b_Model_checkKind 300 = .ok (.iload_n 1, 1) := by decide +kernel
theorem d_Model_checkKind_301 : decode b_Model_checkKind 301 = .ok (.invokevirtual 747, 3) := by decide +kernel
theorem ml_Model_747 : Cond.methodLink R_Model 747 ⟨"PointerHouseModel", "checkOperator", "(I)I"⟩ ∈ lw_good := lg_right (i := 2627) (by decide +kernel) rfl
theorem d_Model_checkKind_304 : decode b_Model_checkKind 304 = .ok (.ireturn, 1) := by decide +kernel
theorem d_Model_checkKind_305 : decode b_Model_checkKind 305 = .ok (.aload_n 0, 1) := by decide +kernel
theorem d_Model_checkKind_306 : decode b_Model_checkKind 306 = .ok (.iload_n 1, 1) := by decide +kernel
theorem d_Model_checkKind_307 : decode b_Model_checkKind 307 = .ok (.invokevirtual 750, 3) := by decide +kernel
theorem ml_Model_750 : Cond.methodLink R_Model 750 ⟨"PointerHouseModel", "checkIndex", "(I)I"⟩ ∈ lw_good := lg_right (i := 2631) (by decide +kernel) rfl
theorem d_Model_checkKind_310 : decode b_Model_checkKind 310 = .ok (.ireturn, 1) := by decide +kernel
theorem d_Model_checkKind_311 : decode b_Model_checkKind 311 = .ok (.aload_n 0, 1) := by decide +kernel
theorem d_Model_checkKind_312 : decode b_Model_checkKind 312 = .ok (.iload_n 1, 1) := by decide +kernel
theorem d_Model_checkKind_313 : decode b_Model_checkKind 313 = .ok (.invokevirtual 753, 3) := by decide +kernel
theorem ml_Model_753 : Cond.methodLink R_Model 753 ⟨"PointerHouseModel", "checkThrough", "(I)I"⟩ ∈ lw_good := lg_right (i := 2635) (by decide +kernel) rfl
theorem d_Model_checkKind_316 : decode b_Model_checkKind 316 = .ok (.ireturn, 1) := by decide +kernel
abbrev b_Model_checkName : ByteArray := prog_14_method_91_code
abbrev y_Model_checkName : MethodName := ⟨R_Model, "checkName", "(I)I"⟩
theorem co_Model_checkName : Cond.code y_Model_checkName b_Model_checkName 5 (some .int) ∈ lw_good := lg_in (tin_11 _ (List.mem_of_getElem? (i := 159) rfl)) rfl
abbrev w_Model_checkName : List Cond := Cond.code y_Model_checkName b_Model_checkName 5 (some .int) :: lw_good
theorem im_Model_checkName : Cond.instanceMethod y_Model_checkName ∈ lw_good := lg_right (i := 2558) (by decide +kernel) rfl
theorem se_Model_checkName : Cond.selects R_Model y_Model_checkName y_Model_checkName ∈ lw_good := lg_left (i := 167) (by decide +kernel) rfl
theorem d_Model_checkName_0 : decode b_Model_checkName 0 = .ok (.aload_n 0, 1) := by decide +kernel
theorem d_Model_checkName_1 : decode b_Model_checkName 1 = .ok (.aload_n 0, 1) := by decide +kernel
theorem d_Model_checkName_2 : decode b_Model_checkName 2 = .ok (.getfield 138, 3) := by decide +kernel
theorem d_Model_checkName_5 : decode b_Model_checkName 5 = .ok (.iload_n 1, 1) := by decide +kernel
theorem d_Model_checkName_6 : decode b_Model_checkName 6 = .ok (.laload, 1) := by decide +kernel
theorem d_Model_checkName_7 : decode b_Model_checkName 7 = .ok (.invokevirtual 691, 3) := by decide +kernel
theorem d_Model_checkName_10 : decode b_Model_checkName 10 = .ok (.istore_n 2, 1) := by decide +kernel
theorem d_Model_checkName_11 : decode b_Model_checkName 11 = .ok (.iload_n 2, 1) := by decide +kernel
theorem d_Model_checkName_12 : decode b_Model_checkName 12 = .ok (.ifCond .ge 17, 3) := by decide +kernel
theorem d_Model_checkName_15 : decode b_Model_checkName 15 = .ok (.aload_n 0, 1) := by decide +kernel
theorem d_Model_checkName_16 : decode b_Model_checkName 16 = .ok (.iconst 3, 1) := by decide +kernel
theorem d_Model_checkName_17 : decode b_Model_checkName 17 = .ok (.aload_n 0, 1) := by decide +kernel
theorem d_Model_checkName_18 : decode b_Model_checkName 18 = .ok (.getfield 123, 3) := by decide +kernel
theorem d_Model_checkName_21 : decode b_Model_checkName 21 = .ok (.iload_n 1, 1) := by decide +kernel
theorem d_Model_checkName_22 : decode b_Model_checkName 22 = .ok (.iaload, 1) := by decide +kernel
theorem d_Model_checkName_23 : decode b_Model_checkName 23 = .ok (.invokevirtual 381, 3) := by decide +kernel
theorem d_Model_checkName_26 : decode b_Model_checkName 26 = .ok (.goto 31, 3) := by decide +kernel
theorem d_Model_checkName_29 : decode b_Model_checkName 29 = .ok (.aload_n 0, 1) := by decide +kernel
theorem d_Model_checkName_30 : decode b_Model_checkName 30 = .ok (.getfield 624, 3) := by decide +kernel
theorem d_Model_checkName_33 : decode b_Model_checkName 33 = .ok (.aload_n 0, 1) := by decide +kernel
theorem d_Model_checkName_34 : decode b_Model_checkName 34 = .ok (.getfield 183, 3) := by decide +kernel
theorem d_Model_checkName_37 : decode b_Model_checkName 37 = .ok (.iload_n 2, 1) := by decide +kernel
theorem d_Model_checkName_38 : decode b_Model_checkName 38 = .ok (.iaload, 1) := by decide +kernel
theorem d_Model_checkName_39 : decode b_Model_checkName 39 = .ok (.ishr, 1) := by decide +kernel
theorem d_Model_checkName_40 : decode b_Model_checkName 40 = .ok (.iconst 1, 1) := by decide +kernel
theorem d_Model_checkName_41 : decode b_Model_checkName 41 = .ok (.iand, 1) := by decide +kernel
theorem d_Model_checkName_42 : decode b_Model_checkName 42 = .ok (.ifCond .ne 15, 3) := by decide +kernel
theorem d_Model_checkName_45 : decode b_Model_checkName 45 = .ok (.aload_n 0, 1) := by decide +kernel
theorem d_Model_checkName_46 : decode b_Model_checkName 46 = .ok (.bipush 6, 2) := by decide +kernel
theorem d_Model_checkName_48 : decode b_Model_checkName 48 = .ok (.aload_n 0, 1) := by decide +kernel
theorem d_Model_checkName_49 : decode b_Model_checkName 49 = .ok (.getfield 123, 3) := by decide +kernel
theorem d_Model_checkName_52 : decode b_Model_checkName 52 = .ok (.iload_n 1, 1) := by decide +kernel
theorem d_Model_checkName_53 : decode b_Model_checkName 53 = .ok (.iaload, 1) := by decide +kernel
theorem d_Model_checkName_54 : decode b_Model_checkName 54 = .ok (.invokevirtual 381, 3) := by decide +kernel
theorem d_Model_checkName_57 : decode b_Model_checkName 57 = .ok (.aload_n 0, 1) := by decide +kernel
theorem d_Model_checkName_58 : decode b_Model_checkName 58 = .ok (.invokevirtual 385, 3) := by decide +kernel
theorem d_Model_checkName_61 : decode b_Model_checkName 61 = .ok (.ifCond .eq 5, 3) := by decide +kernel
theorem d_Model_checkName_64 : decode b_Model_checkName 64 = .ok (.iconst 0, 1) := by decide +kernel
theorem d_Model_checkName_65 : decode b_Model_checkName 65 = .ok (.ireturn, 1) := by decide +kernel
theorem d_Model_checkName_66 : decode b_Model_checkName 66 = .ok (.aload_n 0, 1) := by decide +kernel
theorem d_Model_checkName_67 : decode b_Model_checkName 67 = .ok (.getfield 186, 3) := by decide +kernel
theorem d_Model_checkName_70 : decode b_Model_checkName 70 = .ok (.iload_n 2, 1) := by decide +kernel
theorem d_Model_checkName_71 : decode b_Model_checkName 71 = .ok (.iaload, 1) := by decide +kernel
theorem d_Model_checkName_72 : decode b_Model_checkName 72 = .ok (.istore_n 3, 1) := by decide +kernel
theorem d_Model_checkName_73 : decode b_Model_checkName 73 = .ok (.aload_n 0, 1) := by decide +kernel
theorem d_Model_checkName_74 : decode b_Model_checkName 74 = .ok (.getfield 153, 3) := by decide +kernel
theorem d_Model_checkName_77 : decode b_Model_checkName 77 = .ok (.iload_n 1, 1) := by decide +kernel
theorem d_Model_checkName_78 : decode b_Model_checkName 78 = .ok (.aload_n 0, 1) := by decide +kernel
theorem d_Model_checkName_79 : decode b_Model_checkName 79 = .ok (.getfield 183, 3) := by decide +kernel
theorem d_Model_checkName_82 : decode b_Model_checkName 82 = .ok (.iload_n 2, 1) := by decide +kernel
theorem d_Model_checkName_83 : decode b_Model_checkName 83 = .ok (.iaload, 1) := by decide +kernel
theorem d_Model_checkName_84 : decode b_Model_checkName 84 = .ok (.iastore, 1) := by decide +kernel
theorem d_Model_checkName_85 : decode b_Model_checkName 85 = .ok (.iload_n 3, 1) := by decide +kernel
theorem d_Model_checkName_86 : decode b_Model_checkName 86 = .ok (.ifCond .le 34, 3) := by decide +kernel
theorem d_Model_checkName_89 : decode b_Model_checkName 89 = .ok (.aload_n 0, 1) := by decide +kernel
theorem d_Model_checkName_90 : decode b_Model_checkName 90 = .ok (.getfield 156, 3) := by decide +kernel
theorem d_Model_checkName_93 : decode b_Model_checkName 93 = .ok (.iload_n 3, 1) := by decide +kernel
theorem d_Model_checkName_94 : decode b_Model_checkName 94 = .ok (.iaload, 1) := by decide +kernel
theorem d_Model_checkName_95 : decode b_Model_checkName 95 = .ok (.iconst 2, 1) := by decide +kernel
theorem d_Model_checkName_96 : decode b_Model_checkName 96 = .ok (.if_icmp .ne 24, 3) := by decide +kernel
theorem d_Model_checkName_99 : decode b_Model_checkName 99 = .ok (.aload_n 0, 1) := by decide +kernel
theorem d_Model_checkName_100 : decode b_Model_checkName 100 = .ok (.getfield 627, 3) := by decide +kernel
theorem d_Model_checkName_103 : decode b_Model_checkName 103 = .ok (.aload_n 0, 1) := by decide +kernel
theorem d_Model_checkName_104 : decode b_Model_checkName 104 = .ok (.getfield 183, 3) := by decide +kernel
theorem d_Model_checkName_107 : decode b_Model_checkName 107 = .ok (.iload_n 2, 1) := by decide +kernel
theorem d_Model_checkName_108 : decode b_Model_checkName 108 = .ok (.iaload, 1) := by decide +kernel
theorem d_Model_checkName_109 : decode b_Model_checkName 109 = .ok (.ishr, 1) := by decide +kernel
theorem d_Model_checkName_110 : decode b_Model_checkName 110 = .ok (.iconst 1, 1) := by decide +kernel
theorem d_Model_checkName_111 : decode b_Model_checkName 111 = .ok (.iand, 1) := by decide +kernel
theorem d_Model_checkName_112 : decode b_Model_checkName 112 = .ok (.iconst 1, 1) := by decide +kernel
theorem d_Model_checkName_113 : decode b_Model_checkName 113 = .ok (.if_icmp .ne 7, 3) := by decide +kernel
theorem d_Model_checkName_116 : decode b_Model_checkName 116 = .ok (.iconst 1, 1) := by decide +kernel
theorem d_Model_checkName_117 : decode b_Model_checkName 117 = .ok (.goto 4, 3) := by decide +kernel
theorem d_Model_checkName_120 : decode b_Model_checkName 120 = .ok (.iconst 0, 1) := by decide +kernel
theorem d_Model_checkName_121 : decode b_Model_checkName 121 = .ok (.istore 4, 2) := by decide +kernel
theorem d_Model_checkName_123 : decode b_Model_checkName 123 = .ok (.iload 4, 2) := by decide +kernel
theorem d_Model_checkName_125 : decode b_Model_checkName 125 = .ok (.ifCond .eq 35, 3) := by decide +kernel
theorem d_Model_checkName_128 : decode b_Model_checkName 128 = .ok (.aload_n 0, 1) := by decide +kernel
theorem d_Model_checkName_129 : decode b_Model_checkName 129 = .ok (.iconst 1, 1) := by decide +kernel
theorem d_Model_checkName_130 : decode b_Model_checkName 130 = .ok (.aload_n 0, 1) := by decide +kernel
theorem d_Model_checkName_131 : decode b_Model_checkName 131 = .ok (.getfield 159, 3) := by decide +kernel
theorem d_Model_checkName_134 : decode b_Model_checkName 134 = .ok (.iload_n 3, 1) := by decide +kernel
theorem d_Model_checkName_135 : decode b_Model_checkName 135 = .ok (.iaload, 1) := by decide +kernel
theorem d_Model_checkName_136 : decode b_Model_checkName 136 = .ok (.aload_n 0, 1) := by decide +kernel
theorem d_Model_checkName_137 : decode b_Model_checkName 137 = .ok (.getfield 162, 3) := by decide +kernel
theorem d_Model_checkName_140 : decode b_Model_checkName 140 = .ok (.iload_n 3, 1) := by decide +kernel
theorem d_Model_checkName_141 : decode b_Model_checkName 141 = .ok (.iaload, 1) := by decide +kernel
theorem d_Model_checkName_142 : decode b_Model_checkName 142 = .ok (.aload_n 0, 1) := by decide +kernel
theorem d_Model_checkName_143 : decode b_Model_checkName 143 = .ok (.getfield 165, 3) := by decide +kernel
theorem d_Model_checkName_146 : decode b_Model_checkName 146 = .ok (.iload_n 3, 1) := by decide +kernel
theorem d_Model_checkName_147 : decode b_Model_checkName 147 = .ok (.iaload, 1) := by decide +kernel
theorem d_Model_checkName_148 : decode b_Model_checkName 148 = .ok (.aload_n 0, 1) := by decide +kernel
theorem d_Model_checkName_149 : decode b_Model_checkName 149 = .ok (.getfield 168, 3) := by decide +kernel
theorem d_Model_checkName_152 : decode b_Model_checkName 152 = .ok (.iload_n 3, 1) := by decide +kernel
theorem d_Model_checkName_153 : decode b_Model_checkName 153 = .ok (.iaload, 1) := by decide +kernel
theorem d_Model_checkName_154 : decode b_Model_checkName 154 = .ok (.invokevirtual 556, 3) := by decide +kernel
theorem d_Model_checkName_157 : decode b_Model_checkName 157 = .ok (.goto 4, 3) := by decide +kernel
theorem d_Model_checkName_160 : decode b_Model_checkName 160 = .ok (.iload_n 3, 1) := by decide +kernel
theorem d_Model_checkName_161 : decode b_Model_checkName 161 = .ok (.ireturn, 1) := by decide +kernel
abbrev b_Model_checkCall : ByteArray := prog_14_method_98_code
abbrev y_Model_checkCall : MethodName := ⟨R_Model, "checkCall", "(I)I"⟩
theorem co_Model_checkCall : Cond.code y_Model_checkCall b_Model_checkCall 7 (some .int) ∈ lw_good := lg_in (tin_11 _ (List.mem_of_getElem? (i := 167) rfl)) rfl
abbrev w_Model_checkCall : List Cond := Cond.code y_Model_checkCall b_Model_checkCall 7 (some .int) :: lw_good
theorem im_Model_checkCall : Cond.instanceMethod y_Model_checkCall ∈ lw_good := lg_right (i := 2566) (by decide +kernel) rfl
theorem se_Model_checkCall : Cond.selects R_Model y_Model_checkCall y_Model_checkCall ∈ lw_good := lg_left (i := 169) (by decide +kernel) rfl
theorem d_Model_checkCall_0 : decode b_Model_checkCall 0 = .ok (.aload_n 0, 1) := by decide +kernel
theorem d_Model_checkCall_1 : decode b_Model_checkCall 1 = .ok (.aload_n 0, 1) := by decide +kernel
theorem d_Model_checkCall_2 : decode b_Model_checkCall 2 = .ok (.getfield 138, 3) := by decide +kernel
theorem d_Model_checkCall_5 : decode b_Model_checkCall 5 = .ok (.iload_n 1, 1) := by decide +kernel
theorem d_Model_checkCall_6 : decode b_Model_checkCall 6 = .ok (.laload, 1) := by decide +kernel
theorem d_Model_checkCall_7 : decode b_Model_checkCall 7 = .ok (.invokevirtual 606, 3) := by decide +kernel
theorem d_Model_checkCall_10 : decode b_Model_checkCall 10 = .ok (.istore_n 2, 1) := by decide +kernel
theorem d_Model_checkCall_11 : decode b_Model_checkCall 11 = .ok (.iload_n 2, 1) := by decide +kernel
theorem d_Model_checkCall_12 : decode b_Model_checkCall 12 = .ok (.ifCond .ge 17, 3) := by decide +kernel
theorem d_Model_checkCall_15 : decode b_Model_checkCall 15 = .ok (.aload_n 0, 1) := by decide +kernel
theorem d_Model_checkCall_16 : decode b_Model_checkCall 16 = .ok (.iconst 3, 1) := by decide +kernel
theorem d_Model_checkCall_17 : decode b_Model_checkCall 17 = .ok (.aload_n 0, 1) := by decide +kernel
theorem d_Model_checkCall_18 : decode b_Model_checkCall 18 = .ok (.getfield 141, 3) := by decide +kernel
theorem d_Model_checkCall_21 : decode b_Model_checkCall 21 = .ok (.iload_n 1, 1) := by decide +kernel
theorem d_Model_checkCall_22 : decode b_Model_checkCall 22 = .ok (.iaload, 1) := by decide +kernel
theorem d_Model_checkCall_23 : decode b_Model_checkCall 23 = .ok (.invokevirtual 381, 3) := by decide +kernel
theorem d_Model_checkCall_26 : decode b_Model_checkCall 26 = .ok (.goto 30, 3) := by decide +kernel
theorem d_Model_checkCall_29 : decode b_Model_checkCall 29 = .ok (.aload_n 0, 1) := by decide +kernel
theorem d_Model_checkCall_30 : decode b_Model_checkCall 30 = .ok (.getfield 27, 3) := by decide +kernel
theorem d_Model_checkCall_33 : decode b_Model_checkCall 33 = .ok (.iload_n 2, 1) := by decide +kernel
theorem d_Model_checkCall_34 : decode b_Model_checkCall 34 = .ok (.iaload, 1) := by decide +kernel
theorem d_Model_checkCall_35 : decode b_Model_checkCall 35 = .ok (.aload_n 0, 1) := by decide +kernel
theorem d_Model_checkCall_36 : decode b_Model_checkCall 36 = .ok (.getfield 147, 3) := by decide +kernel
theorem d_Model_checkCall_39 : decode b_Model_checkCall 39 = .ok (.iload_n 1, 1) := by decide +kernel
theorem d_Model_checkCall_40 : decode b_Model_checkCall 40 = .ok (.iaload, 1) := by decide +kernel
theorem d_Model_checkCall_41 : decode b_Model_checkCall 41 = .ok (.if_icmp .eq 15, 3) := by decide +kernel
theorem d_Model_checkCall_44 : decode b_Model_checkCall 44 = .ok (.aload_n 0, 1) := by decide +kernel
theorem d_Model_checkCall_45 : decode b_Model_checkCall 45 = .ok (.bipush 7, 2) := by decide +kernel
theorem d_Model_checkCall_47 : decode b_Model_checkCall 47 = .ok (.aload_n 0, 1) := by decide +kernel
theorem d_Model_checkCall_48 : decode b_Model_checkCall 48 = .ok (.getfield 141, 3) := by decide +kernel
theorem d_Model_checkCall_51 : decode b_Model_checkCall 51 = .ok (.iload_n 1, 1) := by decide +kernel
theorem d_Model_checkCall_52 : decode b_Model_checkCall 52 = .ok (.iaload, 1) := by decide +kernel
theorem d_Model_checkCall_53 : decode b_Model_checkCall 53 = .ok (.invokevirtual 381, 3) := by decide +kernel
theorem d_Model_checkCall_56 : decode b_Model_checkCall 56 = .ok (.aload_n 0, 1) := by decide +kernel
theorem d_Model_checkCall_57 : decode b_Model_checkCall 57 = .ok (.aload_n 0, 1) := by decide +kernel
theorem d_Model_checkCall_58 : decode b_Model_checkCall 58 = .ok (.getfield 144, 3) := by decide +kernel
theorem d_Model_checkCall_61 : decode b_Model_checkCall 61 = .ok (.iload_n 1, 1) := by decide +kernel
theorem d_Model_checkCall_62 : decode b_Model_checkCall 62 = .ok (.iaload, 1) := by decide +kernel
theorem d_Model_checkCall_63 : decode b_Model_checkCall 63 = .ok (.aload_n 0, 1) := by decide +kernel
theorem d_Model_checkCall_64 : decode b_Model_checkCall 64 = .ok (.invokevirtual 385, 3) := by decide +kernel
theorem d_Model_checkCall_67 : decode b_Model_checkCall 67 = .ok (.ifCond .eq 7, 3) := by decide +kernel
theorem d_Model_checkCall_70 : decode b_Model_checkCall 70 = .ok (.iconst 0, 1) := by decide +kernel
theorem d_Model_checkCall_71 : decode b_Model_checkCall 71 = .ok (.goto 9, 3) := by decide +kernel
theorem d_Model_checkCall_74 : decode b_Model_checkCall 74 = .ok (.aload_n 0, 1) := by decide +kernel
theorem d_Model_checkCall_75 : decode b_Model_checkCall 75 = .ok (.getfield 147, 3) := by decide +kernel
theorem d_Model_checkCall_78 : decode b_Model_checkCall 78 = .ok (.iload_n 1, 1) := by decide +kernel
theorem d_Model_checkCall_79 : decode b_Model_checkCall 79 = .ok (.iaload, 1) := by decide +kernel
theorem d_Model_checkCall_80 : decode b_Model_checkCall 80 = .ok (.invokevirtual 590, 3) := by decide +kernel
theorem d_Model_checkCall_83 : decode b_Model_checkCall 83 = .ok (.istore_n 3, 1) := by decide +kernel
theorem d_Model_checkCall_84 : decode b_Model_checkCall 84 = .ok (.aload_n 0, 1) := by decide +kernel
theorem d_Model_checkCall_85 : decode b_Model_checkCall 85 = .ok (.invokevirtual 385, 3) := by decide +kernel
theorem d_Model_checkCall_88 : decode b_Model_checkCall 88 = .ok (.ifCond .eq 5, 3) := by decide +kernel
theorem d_Model_checkCall_91 : decode b_Model_checkCall 91 = .ok (.iconst 0, 1) := by decide +kernel
theorem d_Model_checkCall_92 : decode b_Model_checkCall 92 = .ok (.ireturn, 1) := by decide +kernel
theorem d_Model_checkCall_93 : decode b_Model_checkCall 93 = .ok (.aload_n 0, 1) := by decide +kernel
theorem d_Model_checkCall_94 : decode b_Model_checkCall 94 = .ok (.getfield 129, 3) := by decide +kernel
theorem d_Model_checkCall_97 : decode b_Model_checkCall 97 = .ok (.iload_n 1, 1) := by decide +kernel
theorem d_Model_checkCall_98 : decode b_Model_checkCall 98 = .ok (.iaload, 1) := by decide +kernel
theorem d_Model_checkCall_99 : decode b_Model_checkCall 99 = .ok (.aload_n 0, 1) := by decide +kernel
theorem d_Model_checkCall_100 : decode b_Model_checkCall 100 = .ok (.getfield 39, 3) := by decide +kernel
theorem d_Model_checkCall_103 : decode b_Model_checkCall 103 = .ok (.iload_n 2, 1) := by decide +kernel
theorem d_Model_checkCall_104 : decode b_Model_checkCall 104 = .ok (.iaload, 1) := by decide +kernel
theorem d_Model_checkCall_105 : decode b_Model_checkCall 105 = .ok (.if_icmp .eq 15, 3) := by decide +kernel
theorem d_Model_checkCall_108 : decode b_Model_checkCall 108 = .ok (.aload_n 0, 1) := by decide +kernel
theorem d_Model_checkCall_109 : decode b_Model_checkCall 109 = .ok (.bipush 7, 2) := by decide +kernel
theorem d_Model_checkCall_111 : decode b_Model_checkCall 111 = .ok (.aload_n 0, 1) := by decide +kernel
theorem d_Model_checkCall_112 : decode b_Model_checkCall 112 = .ok (.getfield 141, 3) := by decide +kernel
theorem d_Model_checkCall_115 : decode b_Model_checkCall 115 = .ok (.iload_n 1, 1) := by decide +kernel
theorem d_Model_checkCall_116 : decode b_Model_checkCall 116 = .ok (.iaload, 1) := by decide +kernel
theorem d_Model_checkCall_117 : decode b_Model_checkCall 117 = .ok (.invokevirtual 381, 3) := by decide +kernel
theorem d_Model_checkCall_120 : decode b_Model_checkCall 120 = .ok (.aload_n 0, 1) := by decide +kernel
theorem d_Model_checkCall_121 : decode b_Model_checkCall 121 = .ok (.iload_n 1, 1) := by decide +kernel
theorem d_Model_checkCall_122 : decode b_Model_checkCall 122 = .ok (.iload_n 2, 1) := by decide +kernel
theorem d_Model_checkCall_123 : decode b_Model_checkCall 123 = .ok (.iload_n 3, 1) := by decide +kernel
theorem d_Model_checkCall_124 : decode b_Model_checkCall 124 = .ok (.invokevirtual 768, 3) := by decide +kernel
theorem ml_Model_768 : Cond.methodLink R_Model 768 ⟨"PointerHouseModel", "fitAll", "(III)V"⟩ ∈ lw_good := lg_right (i := 2568) (by decide +kernel) rfl
theorem d_Model_checkCall_127 : decode b_Model_checkCall 127 = .ok (.iconst 0, 1) := by decide +kernel
theorem d_Model_checkCall_128 : decode b_Model_checkCall 128 = .ok (.istore 4, 2) := by decide +kernel
theorem d_Model_checkCall_130 : decode b_Model_checkCall 130 = .ok (.iload 4, 2) := by decide +kernel
theorem d_Model_checkCall_132 : decode b_Model_checkCall 132 = .ok (.aload_n 0, 1) := by decide +kernel
theorem d_Model_checkCall_133 : decode b_Model_checkCall 133 = .ok (.getfield 147, 3) := by decide +kernel
theorem d_Model_checkCall_136 : decode b_Model_checkCall 136 = .ok (.iload_n 1, 1) := by decide +kernel
theorem d_Model_checkCall_137 : decode b_Model_checkCall 137 = .ok (.iaload, 1) := by decide +kernel
theorem d_Model_checkCall_138 : decode b_Model_checkCall 138 = .ok (.if_icmp .ge 64, 3) := by decide +kernel
theorem d_Model_checkCall_141 : decode b_Model_checkCall 141 = .ok (.aload_n 0, 1) := by decide +kernel
theorem d_Model_checkCall_142 : decode b_Model_checkCall 142 = .ok (.invokevirtual 385, 3) := by decide +kernel
theorem d_Model_checkCall_145 : decode b_Model_checkCall 145 = .ok (.ifCond .ne 57, 3) := by decide +kernel
theorem d_Model_checkCall_148 : decode b_Model_checkCall 148 = .ok (.aload_n 0, 1) := by decide +kernel
theorem d_Model_checkCall_149 : decode b_Model_checkCall 149 = .ok (.getfield 69, 3) := by decide +kernel
theorem d_Model_checkCall_152 : decode b_Model_checkCall 152 = .ok (.iload_n 2, 1) := by decide +kernel
theorem d_Model_checkCall_153 : decode b_Model_checkCall 153 = .ok (.iaload, 1) := by decide +kernel
theorem d_Model_checkCall_154 : decode b_Model_checkCall 154 = .ok (.iload 4, 2) := by decide +kernel
theorem d_Model_checkCall_156 : decode b_Model_checkCall 156 = .ok (.iconst 1, 1) := by decide +kernel
theorem d_Model_checkCall_157 : decode b_Model_checkCall 157 = .ok (.iadd, 1) := by decide +kernel
theorem d_Model_checkCall_158 : decode b_Model_checkCall 158 = .ok (.ishr, 1) := by decide +kernel
theorem d_Model_checkCall_159 : decode b_Model_checkCall 159 = .ok (.iconst 1, 1) := by decide +kernel
theorem d_Model_checkCall_160 : decode b_Model_checkCall 160 = .ok (.iand, 1) := by decide +kernel
theorem d_Model_checkCall_161 : decode b_Model_checkCall 161 = .ok (.ifCond .ne 35, 3) := by decide +kernel
theorem d_Model_checkCall_164 : decode b_Model_checkCall 164 = .ok (.aload_n 0, 1) := by decide +kernel
theorem d_Model_checkCall_165 : decode b_Model_checkCall 165 = .ok (.iload_n 3, 1) := by decide +kernel
theorem d_Model_checkCall_166 : decode b_Model_checkCall 166 = .ok (.iload 4, 2) := by decide +kernel
theorem d_Model_checkCall_168 : decode b_Model_checkCall 168 = .ok (.invokestatic 550, 3) := by decide +kernel
theorem d_Model_checkCall_171 : decode b_Model_checkCall 171 = .ok (.invokevirtual 581, 3) := by decide +kernel
theorem d_Model_checkCall_174 : decode b_Model_checkCall 174 = .ok (.ifCond .ne 22, 3) := by decide +kernel
theorem d_Model_checkCall_177 : decode b_Model_checkCall 177 = .ok (.aload_n 0, 1) := by decide +kernel
theorem d_Model_checkCall_178 : decode b_Model_checkCall 178 = .ok (.iconst 5, 1) := by decide +kernel
theorem d_Model_checkCall_179 : decode b_Model_checkCall 179 = .ok (.aload_n 0, 1) := by decide +kernel
theorem d_Model_checkCall_180 : decode b_Model_checkCall 180 = .ok (.getfield 114, 3) := by decide +kernel
theorem d_Model_checkCall_183 : decode b_Model_checkCall 183 = .ok (.aload_n 0, 1) := by decide +kernel
theorem d_Model_checkCall_184 : decode b_Model_checkCall 184 = .ok (.getfield 144, 3) := by decide +kernel
theorem d_Model_checkCall_187 : decode b_Model_checkCall 187 = .ok (.iload_n 1, 1) := by decide +kernel
theorem d_Model_checkCall_188 : decode b_Model_checkCall 188 = .ok (.iaload, 1) := by decide +kernel
theorem d_Model_checkCall_189 : decode b_Model_checkCall 189 = .ok (.iload 4, 2) := by decide +kernel
theorem d_Model_checkCall_191 : decode b_Model_checkCall 191 = .ok (.iadd, 1) := by decide +kernel
theorem d_Model_checkCall_192 : decode b_Model_checkCall 192 = .ok (.iaload, 1) := by decide +kernel
theorem d_Model_checkCall_193 : decode b_Model_checkCall 193 = .ok (.invokevirtual 381, 3) := by decide +kernel
theorem d_Model_checkCall_196 : decode b_Model_checkCall 196 = .ok (.iinc 4 1, 3) := by decide +kernel
theorem d_Model_checkCall_199 : decode b_Model_checkCall 199 = .ok (.goto (-69), 3) := by decide +kernel
theorem d_Model_checkCall_202 : decode b_Model_checkCall 202 = .ok (.iconst 0, 1) := by decide +kernel
theorem d_Model_checkCall_203 : decode b_Model_checkCall 203 = .ok (.istore 4, 2) := by decide +kernel
theorem d_Model_checkCall_205 : decode b_Model_checkCall 205 = .ok (.iload 4, 2) := by decide +kernel
theorem d_Model_checkCall_207 : decode b_Model_checkCall 207 = .ok (.aload_n 0, 1) := by decide +kernel
theorem d_Model_checkCall_208 : decode b_Model_checkCall 208 = .ok (.getfield 72, 3) := by decide +kernel
theorem d_Model_checkCall_211 : decode b_Model_checkCall 211 = .ok (.iload_n 2, 1) := by decide +kernel
theorem d_Model_checkCall_212 : decode b_Model_checkCall 212 = .ok (.iaload, 1) := by decide +kernel
theorem d_Model_checkCall_213 : decode b_Model_checkCall 213 = .ok (.if_icmp .ge 104, 3) := by decide +kernel
theorem d_Model_checkCall_216 : decode b_Model_checkCall 216 = .ok (.aload_n 0, 1) := by decide +kernel
theorem d_Model_checkCall_217 : decode b_Model_checkCall 217 = .ok (.invokevirtual 385, 3) := by decide +kernel
theorem d_Model_checkCall_220 : decode b_Model_checkCall 220 = .ok (.ifCond .ne 97, 3) := by decide +kernel
theorem d_Model_checkCall_223 : decode b_Model_checkCall 223 = .ok (.aload_n 0, 1) := by decide +kernel
theorem d_Model_checkCall_224 : decode b_Model_checkCall 224 = .ok (.iload_n 2, 1) := by decide +kernel
theorem d_Model_checkCall_225 : decode b_Model_checkCall 225 = .ok (.aload_n 0, 1) := by decide +kernel
theorem d_Model_checkCall_226 : decode b_Model_checkCall 226 = .ok (.getfield 75, 3) := by decide +kernel
theorem d_Model_checkCall_229 : decode b_Model_checkCall 229 = .ok (.bipush 6, 2) := by decide +kernel
theorem d_Model_checkCall_231 : decode b_Model_checkCall 231 = .ok (.iload_n 2, 1) := by decide +kernel
theorem d_Model_checkCall_232 : decode b_Model_checkCall 232 = .ok (.imul, 1) := by decide +kernel
theorem d_Model_checkCall_233 : decode b_Model_checkCall 233 = .ok (.iconst 2, 1) := by decide +kernel
theorem d_Model_checkCall_234 : decode b_Model_checkCall 234 = .ok (.iload 4, 2) := by decide +kernel
theorem d_Model_checkCall_236 : decode b_Model_checkCall 236 = .ok (.imul, 1) := by decide +kernel
theorem d_Model_checkCall_237 : decode b_Model_checkCall 237 = .ok (.iadd, 1) := by decide +kernel
theorem d_Model_checkCall_238 : decode b_Model_checkCall 238 = .ok (.laload, 1) := by decide +kernel
theorem d_Model_checkCall_239 : decode b_Model_checkCall 239 = .ok (.invokevirtual 616, 3) := by decide +kernel
theorem d_Model_checkCall_242 : decode b_Model_checkCall 242 = .ok (.istore 5, 2) := by decide +kernel
theorem d_Model_checkCall_244 : decode b_Model_checkCall 244 = .ok (.aload_n 0, 1) := by decide +kernel
theorem d_Model_checkCall_245 : decode b_Model_checkCall 245 = .ok (.iload_n 2, 1) := by decide +kernel
theorem d_Model_checkCall_246 : decode b_Model_checkCall 246 = .ok (.aload_n 0, 1) := by decide +kernel
theorem d_Model_checkCall_247 : decode b_Model_checkCall 247 = .ok (.getfield 75, 3) := by decide +kernel
theorem d_Model_checkCall_250 : decode b_Model_checkCall 250 = .ok (.bipush 6, 2) := by decide +kernel
theorem d_Model_checkCall_252 : decode b_Model_checkCall 252 = .ok (.iload_n 2, 1) := by decide +kernel
theorem d_Model_checkCall_253 : decode b_Model_checkCall 253 = .ok (.imul, 1) := by decide +kernel
theorem d_Model_checkCall_254 : decode b_Model_checkCall 254 = .ok (.iconst 2, 1) := by decide +kernel
theorem d_Model_checkCall_255 : decode b_Model_checkCall 255 = .ok (.iload 4, 2) := by decide +kernel
theorem d_Model_checkCall_257 : decode b_Model_checkCall 257 = .ok (.imul, 1) := by decide +kernel
theorem d_Model_checkCall_258 : decode b_Model_checkCall 258 = .ok (.iadd, 1) := by decide +kernel
theorem d_Model_checkCall_259 : decode b_Model_checkCall 259 = .ok (.iconst 1, 1) := by decide +kernel
theorem d_Model_checkCall_260 : decode b_Model_checkCall 260 = .ok (.iadd, 1) := by decide +kernel
theorem d_Model_checkCall_261 : decode b_Model_checkCall 261 = .ok (.laload, 1) := by decide +kernel
theorem d_Model_checkCall_262 : decode b_Model_checkCall 262 = .ok (.invokevirtual 616, 3) := by decide +kernel
theorem d_Model_checkCall_265 : decode b_Model_checkCall 265 = .ok (.istore 6, 2) := by decide +kernel
theorem d_Model_checkCall_267 : decode b_Model_checkCall 267 = .ok (.aload_n 0, 1) := by decide +kernel
theorem d_Model_checkCall_268 : decode b_Model_checkCall 268 = .ok (.iload_n 3, 1) := by decide +kernel
theorem d_Model_checkCall_269 : decode b_Model_checkCall 269 = .ok (.iload 5, 2) := by decide +kernel
theorem d_Model_checkCall_271 : decode b_Model_checkCall 271 = .ok (.iconst 1, 1) := by decide +kernel
theorem d_Model_checkCall_272 : decode b_Model_checkCall 272 = .ok (.isub, 1) := by decide +kernel
theorem d_Model_checkCall_273 : decode b_Model_checkCall 273 = .ok (.invokestatic 550, 3) := by decide +kernel
theorem d_Model_checkCall_276 : decode b_Model_checkCall 276 = .ok (.iload_n 3, 1) := by decide +kernel
theorem d_Model_checkCall_277 : decode b_Model_checkCall 277 = .ok (.iload 6, 2) := by decide +kernel
theorem d_Model_checkCall_279 : decode b_Model_checkCall 279 = .ok (.iconst 1, 1) := by decide +kernel
theorem d_Model_checkCall_280 : decode b_Model_checkCall 280 = .ok (.isub, 1) := by decide +kernel
theorem d_Model_checkCall_281 : decode b_Model_checkCall 281 = .ok (.invokestatic 550, 3) := by decide +kernel
theorem d_Model_checkCall_284 : decode b_Model_checkCall 284 = .ok (.invokevirtual 600, 3) := by decide +kernel
theorem d_Model_checkCall_287 : decode b_Model_checkCall 287 = .ok (.ifCond .ne 24, 3) := by decide +kernel
theorem d_Model_checkCall_290 : decode b_Model_checkCall 290 = .ok (.aload_n 0, 1) := by decide +kernel
theorem d_Model_checkCall_291 : decode b_Model_checkCall 291 = .ok (.iconst 5, 1) := by decide +kernel
theorem d_Model_checkCall_292 : decode b_Model_checkCall 292 = .ok (.aload_n 0, 1) := by decide +kernel
theorem d_Model_checkCall_293 : decode b_Model_checkCall 293 = .ok (.getfield 114, 3) := by decide +kernel
theorem d_Model_checkCall_296 : decode b_Model_checkCall 296 = .ok (.aload_n 0, 1) := by decide +kernel
theorem d_Model_checkCall_297 : decode b_Model_checkCall 297 = .ok (.getfield 144, 3) := by decide +kernel
theorem d_Model_checkCall_300 : decode b_Model_checkCall 300 = .ok (.iload_n 1, 1) := by decide +kernel
theorem d_Model_checkCall_301 : decode b_Model_checkCall 301 = .ok (.iaload, 1) := by decide +kernel
theorem d_Model_checkCall_302 : decode b_Model_checkCall 302 = .ok (.iload 5, 2) := by decide +kernel
theorem d_Model_checkCall_304 : decode b_Model_checkCall 304 = .ok (.iadd, 1) := by decide +kernel
theorem d_Model_checkCall_305 : decode b_Model_checkCall 305 = .ok (.iconst 1, 1) := by decide +kernel
theorem d_Model_checkCall_306 : decode b_Model_checkCall 306 = .ok (.isub, 1) := by decide +kernel
theorem d_Model_checkCall_307 : decode b_Model_checkCall 307 = .ok (.iaload, 1) := by decide +kernel
theorem d_Model_checkCall_308 : decode b_Model_checkCall 308 = .ok (.invokevirtual 381, 3) := by decide +kernel
theorem d_Model_checkCall_311 : decode b_Model_checkCall 311 = .ok (.iinc 4 1, 3) := by decide +kernel
theorem d_Model_checkCall_314 : decode b_Model_checkCall 314 = .ok (.goto (-109), 3) := by decide +kernel
theorem d_Model_checkCall_317 : decode b_Model_checkCall 317 = .ok (.aload_n 0, 1) := by decide +kernel
theorem d_Model_checkCall_318 : decode b_Model_checkCall 318 = .ok (.invokevirtual 385, 3) := by decide +kernel
theorem d_Model_checkCall_321 : decode b_Model_checkCall 321 = .ok (.ifCond .eq 5, 3) := by decide +kernel
theorem d_Model_checkCall_324 : decode b_Model_checkCall 324 = .ok (.iconst 0, 1) := by decide +kernel
theorem d_Model_checkCall_325 : decode b_Model_checkCall 325 = .ok (.ireturn, 1) := by decide +kernel
theorem d_Model_checkCall_326 : decode b_Model_checkCall 326 = .ok (.aload_n 0, 1) := by decide +kernel
theorem d_Model_checkCall_327 : decode b_Model_checkCall 327 = .ok (.getfield 153, 3) := by decide +kernel
theorem d_Model_checkCall_330 : decode b_Model_checkCall 330 = .ok (.iload_n 1, 1) := by decide +kernel
theorem d_Model_checkCall_331 : decode b_Model_checkCall 331 = .ok (.iload_n 2, 1) := by decide +kernel
theorem d_Model_checkCall_332 : decode b_Model_checkCall 332 = .ok (.iastore, 1) := by decide +kernel
theorem d_Model_checkCall_333 : decode b_Model_checkCall 333 = .ok (.aload_n 0, 1) := by decide +kernel
theorem d_Model_checkCall_334 : decode b_Model_checkCall 334 = .ok (.getfield 54, 3) := by decide +kernel
theorem d_Model_checkCall_337 : decode b_Model_checkCall 337 = .ok (.iload_n 2, 1) := by decide +kernel
theorem d_Model_checkCall_338 : decode b_Model_checkCall 338 = .ok (.iaload, 1) := by decide +kernel
theorem d_Model_checkCall_339 : decode b_Model_checkCall 339 = .ok (.ifCond .ge 7, 3) := by decide +kernel
theorem d_Model_checkCall_342 : decode b_Model_checkCall 342 = .ok (.iconst (-1), 1) := by decide +kernel
theorem d_Model_checkCall_343 : decode b_Model_checkCall 343 = .ok (.goto 14, 3) := by decide +kernel
theorem d_Model_checkCall_346 : decode b_Model_checkCall 346 = .ok (.aload_n 0, 1) := by decide +kernel
theorem d_Model_checkCall_347 : decode b_Model_checkCall 347 = .ok (.aload_n 0, 1) := by decide +kernel
theorem d_Model_checkCall_348 : decode b_Model_checkCall 348 = .ok (.getfield 57, 3) := by decide +kernel
theorem d_Model_checkCall_351 : decode b_Model_checkCall 351 = .ok (.iload_n 2, 1) := by decide +kernel
theorem d_Model_checkCall_352 : decode b_Model_checkCall 352 = .ok (.iaload, 1) := by decide +kernel
theorem d_Model_checkCall_353 : decode b_Model_checkCall 353 = .ok (.iload_n 3, 1) := by decide +kernel
theorem d_Model_checkCall_354 : decode b_Model_checkCall 354 = .ok (.invokevirtual 553, 3) := by decide +kernel
theorem d_Model_checkCall_357 : decode b_Model_checkCall 357 = .ok (.ireturn, 1) := by decide +kernel
abbrev b_Model_checkNew : ByteArray := prog_14_method_96_code
abbrev y_Model_checkNew : MethodName := ⟨R_Model, "checkNew", "(I)I"⟩
theorem co_Model_checkNew : Cond.code y_Model_checkNew b_Model_checkNew 9 (some .int) ∈ lw_good := lg_in (tin_11 _ (List.mem_of_getElem? (i := 202) rfl)) rfl
abbrev w_Model_checkNew : List Cond := Cond.code y_Model_checkNew b_Model_checkNew 9 (some .int) :: lw_good
theorem im_Model_checkNew : Cond.instanceMethod y_Model_checkNew ∈ lw_good := lg_right (i := 2601) (by decide +kernel) rfl
theorem se_Model_checkNew : Cond.selects R_Model y_Model_checkNew y_Model_checkNew ∈ lw_good := lg_left (i := 177) (by decide +kernel) rfl
theorem d_Model_checkNew_0 : decode b_Model_checkNew 0 = .ok (.aload_n 0, 1) := by decide +kernel
theorem d_Model_checkNew_1 : decode b_Model_checkNew 1 = .ok (.aload_n 0, 1) := by decide +kernel
theorem d_Model_checkNew_2 : decode b_Model_checkNew 2 = .ok (.getfield 132, 3) := by decide +kernel
theorem d_Model_checkNew_5 : decode b_Model_checkNew 5 = .ok (.iload_n 1, 1) := by decide +kernel
theorem d_Model_checkNew_6 : decode b_Model_checkNew 6 = .ok (.iaload, 1) := by decide +kernel
theorem d_Model_checkNew_7 : decode b_Model_checkNew 7 = .ok (.invokevirtual 762, 3) := by decide +kernel
theorem ml_Model_762 : Cond.methodLink R_Model 762 ⟨"PointerHouseModel", "liveRegionAt", "(I)I"⟩ ∈ lw_good := lg_right (i := 2603) (by decide +kernel) rfl
theorem d_Model_checkNew_10 : decode b_Model_checkNew 10 = .ok (.istore_n 2, 1) := by decide +kernel
theorem d_Model_checkNew_11 : decode b_Model_checkNew 11 = .ok (.aload_n 0, 1) := by decide +kernel
theorem d_Model_checkNew_12 : decode b_Model_checkNew 12 = .ok (.invokevirtual 385, 3) := by decide +kernel
theorem d_Model_checkNew_15 : decode b_Model_checkNew 15 = .ok (.ifCond .eq 5, 3) := by decide +kernel
theorem d_Model_checkNew_18 : decode b_Model_checkNew 18 = .ok (.iconst 0, 1) := by decide +kernel
theorem d_Model_checkNew_19 : decode b_Model_checkNew 19 = .ok (.ireturn, 1) := by decide +kernel
theorem d_Model_checkNew_20 : decode b_Model_checkNew 20 = .ok (.aload_n 0, 1) := by decide +kernel
theorem d_Model_checkNew_21 : decode b_Model_checkNew 21 = .ok (.aload_n 0, 1) := by decide +kernel
theorem d_Model_checkNew_22 : decode b_Model_checkNew 22 = .ok (.getfield 138, 3) := by decide +kernel
theorem d_Model_checkNew_25 : decode b_Model_checkNew 25 = .ok (.iload_n 1, 1) := by decide +kernel
theorem d_Model_checkNew_26 : decode b_Model_checkNew 26 = .ok (.laload, 1) := by decide +kernel
theorem d_Model_checkNew_27 : decode b_Model_checkNew 27 = .ok (.invokevirtual 587, 3) := by decide +kernel
theorem d_Model_checkNew_30 : decode b_Model_checkNew 30 = .ok (.istore_n 3, 1) := by decide +kernel
theorem d_Model_checkNew_31 : decode b_Model_checkNew 31 = .ok (.iload_n 3, 1) := by decide +kernel
theorem d_Model_checkNew_32 : decode b_Model_checkNew 32 = .ok (.ifCond .ge 17, 3) := by decide +kernel
theorem d_Model_checkNew_35 : decode b_Model_checkNew 35 = .ok (.aload_n 0, 1) := by decide +kernel
theorem d_Model_checkNew_36 : decode b_Model_checkNew 36 = .ok (.iconst 3, 1) := by decide +kernel
theorem d_Model_checkNew_37 : decode b_Model_checkNew 37 = .ok (.aload_n 0, 1) := by decide +kernel
theorem d_Model_checkNew_38 : decode b_Model_checkNew 38 = .ok (.getfield 141, 3) := by decide +kernel
theorem d_Model_checkNew_41 : decode b_Model_checkNew 41 = .ok (.iload_n 1, 1) := by decide +kernel
theorem d_Model_checkNew_42 : decode b_Model_checkNew 42 = .ok (.iaload, 1) := by decide +kernel
theorem d_Model_checkNew_43 : decode b_Model_checkNew 43 = .ok (.invokevirtual 381, 3) := by decide +kernel
theorem d_Model_checkNew_46 : decode b_Model_checkNew 46 = .ok (.goto 30, 3) := by decide +kernel
theorem d_Model_checkNew_49 : decode b_Model_checkNew 49 = .ok (.aload_n 0, 1) := by decide +kernel
theorem d_Model_checkNew_50 : decode b_Model_checkNew 50 = .ok (.getfield 27, 3) := by decide +kernel
theorem d_Model_checkNew_53 : decode b_Model_checkNew 53 = .ok (.iload_n 3, 1) := by decide +kernel
theorem d_Model_checkNew_54 : decode b_Model_checkNew 54 = .ok (.iaload, 1) := by decide +kernel
theorem d_Model_checkNew_55 : decode b_Model_checkNew 55 = .ok (.aload_n 0, 1) := by decide +kernel
theorem d_Model_checkNew_56 : decode b_Model_checkNew 56 = .ok (.getfield 147, 3) := by decide +kernel
theorem d_Model_checkNew_59 : decode b_Model_checkNew 59 = .ok (.iload_n 1, 1) := by decide +kernel
theorem d_Model_checkNew_60 : decode b_Model_checkNew 60 = .ok (.iaload, 1) := by decide +kernel
theorem d_Model_checkNew_61 : decode b_Model_checkNew 61 = .ok (.if_icmp .eq 15, 3) := by decide +kernel
theorem d_Model_checkNew_64 : decode b_Model_checkNew 64 = .ok (.aload_n 0, 1) := by decide +kernel
theorem d_Model_checkNew_65 : decode b_Model_checkNew 65 = .ok (.bipush 7, 2) := by decide +kernel
theorem d_Model_checkNew_67 : decode b_Model_checkNew 67 = .ok (.aload_n 0, 1) := by decide +kernel
theorem d_Model_checkNew_68 : decode b_Model_checkNew 68 = .ok (.getfield 141, 3) := by decide +kernel
theorem d_Model_checkNew_71 : decode b_Model_checkNew 71 = .ok (.iload_n 1, 1) := by decide +kernel
theorem d_Model_checkNew_72 : decode b_Model_checkNew 72 = .ok (.iaload, 1) := by decide +kernel
theorem d_Model_checkNew_73 : decode b_Model_checkNew 73 = .ok (.invokevirtual 381, 3) := by decide +kernel
theorem d_Model_checkNew_76 : decode b_Model_checkNew 76 = .ok (.aload_n 0, 1) := by decide +kernel
theorem d_Model_checkNew_77 : decode b_Model_checkNew 77 = .ok (.aload_n 0, 1) := by decide +kernel
theorem d_Model_checkNew_78 : decode b_Model_checkNew 78 = .ok (.getfield 144, 3) := by decide +kernel
theorem d_Model_checkNew_81 : decode b_Model_checkNew 81 = .ok (.iload_n 1, 1) := by decide +kernel
theorem d_Model_checkNew_82 : decode b_Model_checkNew 82 = .ok (.iaload, 1) := by decide +kernel
theorem d_Model_checkNew_83 : decode b_Model_checkNew 83 = .ok (.aload_n 0, 1) := by decide +kernel
theorem d_Model_checkNew_84 : decode b_Model_checkNew 84 = .ok (.getfield 147, 3) := by decide +kernel
theorem d_Model_checkNew_87 : decode b_Model_checkNew 87 = .ok (.iload_n 1, 1) := by decide +kernel
theorem d_Model_checkNew_88 : decode b_Model_checkNew 88 = .ok (.iaload, 1) := by decide +kernel
theorem d_Model_checkNew_89 : decode b_Model_checkNew 89 = .ok (.invokevirtual 590, 3) := by decide +kernel
theorem d_Model_checkNew_92 : decode b_Model_checkNew 92 = .ok (.istore 4, 2) := by decide +kernel
theorem d_Model_checkNew_94 : decode b_Model_checkNew 94 = .ok (.aload_n 0, 1) := by decide +kernel
theorem d_Model_checkNew_95 : decode b_Model_checkNew 95 = .ok (.invokevirtual 385, 3) := by decide +kernel
theorem d_Model_checkNew_98 : decode b_Model_checkNew 98 = .ok (.ifCond .eq 5, 3) := by decide +kernel
theorem d_Model_checkNew_101 : decode b_Model_checkNew 101 = .ok (.iconst 0, 1) := by decide +kernel
theorem d_Model_checkNew_102 : decode b_Model_checkNew 102 = .ok (.ireturn, 1) := by decide +kernel
theorem d_Model_checkNew_103 : decode b_Model_checkNew 103 = .ok (.aload_n 0, 1) := by decide +kernel
theorem d_Model_checkNew_104 : decode b_Model_checkNew 104 = .ok (.getfield 120, 3) := by decide +kernel
theorem d_Model_checkNew_107 : decode b_Model_checkNew 107 = .ok (.iload_n 1, 1) := by decide +kernel
theorem d_Model_checkNew_108 : decode b_Model_checkNew 108 = .ok (.iaload, 1) := by decide +kernel
theorem d_Model_checkNew_109 : decode b_Model_checkNew 109 = .ok (.bipush 7, 2) := by decide +kernel
theorem d_Model_checkNew_111 : decode b_Model_checkNew 111 = .ok (.if_icmp .ne 7, 3) := by decide +kernel
theorem d_Model_checkNew_114 : decode b_Model_checkNew 114 = .ok (.iconst 1, 1) := by decide +kernel
theorem d_Model_checkNew_115 : decode b_Model_checkNew 115 = .ok (.goto 4, 3) := by decide +kernel
theorem d_Model_checkNew_118 : decode b_Model_checkNew 118 = .ok (.iconst 0, 1) := by decide +kernel
theorem d_Model_checkNew_119 : decode b_Model_checkNew 119 = .ok (.istore 5, 2) := by decide +kernel
theorem d_Model_checkNew_121 : decode b_Model_checkNew 121 = .ok (.aload_n 0, 1) := by decide +kernel
theorem d_Model_checkNew_122 : decode b_Model_checkNew 122 = .ok (.getfield 17, 3) := by decide +kernel
theorem d_Model_checkNew_125 : decode b_Model_checkNew 125 = .ok (.iload_n 3, 1) := by decide +kernel
theorem d_Model_checkNew_126 : decode b_Model_checkNew 126 = .ok (.iaload, 1) := by decide +kernel
theorem d_Model_checkNew_127 : decode b_Model_checkNew 127 = .ok (.iload 5, 2) := by decide +kernel
theorem d_Model_checkNew_129 : decode b_Model_checkNew 129 = .ok (.ifCond .eq 7, 3) := by decide +kernel
theorem d_Model_checkNew_132 : decode b_Model_checkNew 132 = .ok (.iconst 1, 1) := by decide +kernel
theorem d_Model_checkNew_133 : decode b_Model_checkNew 133 = .ok (.goto 4, 3) := by decide +kernel
theorem d_Model_checkNew_136 : decode b_Model_checkNew 136 = .ok (.iconst 0, 1) := by decide +kernel
theorem d_Model_checkNew_137 : decode b_Model_checkNew 137 = .ok (.if_icmp .eq 37, 3) := by decide +kernel
theorem d_Model_checkNew_140 : decode b_Model_checkNew 140 = .ok (.aload_n 0, 1) := by decide +kernel
theorem d_Model_checkNew_141 : decode b_Model_checkNew 141 = .ok (.bipush 7, 2) := by decide +kernel
theorem d_Model_checkNew_143 : decode b_Model_checkNew 143 = .ok (.iload 5, 2) := by decide +kernel
theorem d_Model_checkNew_145 : decode b_Model_checkNew 145 = .ok (.ifCond .eq 17, 3) := by decide +kernel
theorem d_Model_checkNew_148 : decode b_Model_checkNew 148 = .ok (.aload_n 0, 1) := by decide +kernel
theorem d_Model_checkNew_149 : decode b_Model_checkNew 149 = .ok (.getfield 123, 3) := by decide +kernel
theorem d_Model_checkNew_152 : decode b_Model_checkNew 152 = .ok (.aload_n 0, 1) := by decide +kernel
theorem d_Model_checkNew_153 : decode b_Model_checkNew 153 = .ok (.getfield 126, 3) := by decide +kernel
theorem d_Model_checkNew_156 : decode b_Model_checkNew 156 = .ok (.iload_n 1, 1) := by decide +kernel
theorem d_Model_checkNew_157 : decode b_Model_checkNew 157 = .ok (.iaload, 1) := by decide +kernel
theorem d_Model_checkNew_158 : decode b_Model_checkNew 158 = .ok (.iaload, 1) := by decide +kernel
theorem d_Model_checkNew_159 : decode b_Model_checkNew 159 = .ok (.goto 9, 3) := by decide +kernel
theorem d_Model_checkNew_162 : decode b_Model_checkNew 162 = .ok (.aload_n 0, 1) := by decide +kernel
theorem d_Model_checkNew_163 : decode b_Model_checkNew 163 = .ok (.getfield 153, 3) := by decide +kernel
theorem d_Model_checkNew_166 : decode b_Model_checkNew 166 = .ok (.iload_n 1, 1) := by decide +kernel
theorem d_Model_checkNew_167 : decode b_Model_checkNew 167 = .ok (.iaload, 1) := by decide +kernel
theorem d_Model_checkNew_168 : decode b_Model_checkNew 168 = .ok (.invokevirtual 381, 3) := by decide +kernel
theorem d_Model_checkNew_171 : decode b_Model_checkNew 171 = .ok (.goto 35, 3) := by decide +kernel
theorem d_Model_checkNew_174 : decode b_Model_checkNew 174 = .ok (.iload 5, 2) := by decide +kernel
theorem d_Model_checkNew_176 : decode b_Model_checkNew 176 = .ok (.ifCond .ne 30, 3) := by decide +kernel
theorem d_Model_checkNew_179 : decode b_Model_checkNew 179 = .ok (.aload_n 0, 1) := by decide +kernel
theorem d_Model_checkNew_180 : decode b_Model_checkNew 180 = .ok (.getfield 129, 3) := by decide +kernel
theorem d_Model_checkNew_183 : decode b_Model_checkNew 183 = .ok (.iload_n 1, 1) := by decide +kernel
theorem d_Model_checkNew_184 : decode b_Model_checkNew 184 = .ok (.iaload, 1) := by decide +kernel
theorem d_Model_checkNew_185 : decode b_Model_checkNew 185 = .ok (.aload_n 0, 1) := by decide +kernel
theorem d_Model_checkNew_186 : decode b_Model_checkNew 186 = .ok (.getfield 39, 3) := by decide +kernel
theorem d_Model_checkNew_189 : decode b_Model_checkNew 189 = .ok (.iload_n 3, 1) := by decide +kernel
theorem d_Model_checkNew_190 : decode b_Model_checkNew 190 = .ok (.iaload, 1) := by decide +kernel
theorem d_Model_checkNew_191 : decode b_Model_checkNew 191 = .ok (.if_icmp .eq 15, 3) := by decide +kernel
theorem d_Model_checkNew_194 : decode b_Model_checkNew 194 = .ok (.aload_n 0, 1) := by decide +kernel
theorem d_Model_checkNew_195 : decode b_Model_checkNew 195 = .ok (.bipush 7, 2) := by decide +kernel
theorem d_Model_checkNew_197 : decode b_Model_checkNew 197 = .ok (.aload_n 0, 1) := by decide +kernel
theorem d_Model_checkNew_198 : decode b_Model_checkNew 198 = .ok (.getfield 141, 3) := by decide +kernel
theorem d_Model_checkNew_201 : decode b_Model_checkNew 201 = .ok (.iload_n 1, 1) := by decide +kernel
theorem d_Model_checkNew_202 : decode b_Model_checkNew 202 = .ok (.iaload, 1) := by decide +kernel
theorem d_Model_checkNew_203 : decode b_Model_checkNew 203 = .ok (.invokevirtual 381, 3) := by decide +kernel
theorem d_Model_checkNew_206 : decode b_Model_checkNew 206 = .ok (.aload_n 0, 1) := by decide +kernel
theorem d_Model_checkNew_207 : decode b_Model_checkNew 207 = .ok (.invokevirtual 385, 3) := by decide +kernel
theorem d_Model_checkNew_210 : decode b_Model_checkNew 210 = .ok (.ifCond .eq 5, 3) := by decide +kernel
theorem d_Model_checkNew_213 : decode b_Model_checkNew 213 = .ok (.iconst 0, 1) := by decide +kernel
theorem d_Model_checkNew_214 : decode b_Model_checkNew 214 = .ok (.ireturn, 1) := by decide +kernel
theorem d_Model_checkNew_215 : decode b_Model_checkNew 215 = .ok (.iload 5, 2) := by decide +kernel
theorem d_Model_checkNew_217 : decode b_Model_checkNew 217 = .ok (.ifCond .eq 121, 3) := by decide +kernel
theorem d_Model_checkNew_220 : decode b_Model_checkNew 220 = .ok (.aload_n 0, 1) := by decide +kernel
theorem d_Model_checkNew_221 : decode b_Model_checkNew 221 = .ok (.iload_n 3, 1) := by decide +kernel
theorem d_Model_checkNew_222 : decode b_Model_checkNew 222 = .ok (.aload_n 0, 1) := by decide +kernel
theorem d_Model_checkNew_223 : decode b_Model_checkNew 223 = .ok (.getfield 138, 3) := by decide +kernel
theorem d_Model_checkNew_226 : decode b_Model_checkNew 226 = .ok (.aload_n 0, 1) := by decide +kernel
theorem d_Model_checkNew_227 : decode b_Model_checkNew 227 = .ok (.getfield 126, 3) := by decide +kernel
theorem d_Model_checkNew_230 : decode b_Model_checkNew 230 = .ok (.iload_n 1, 1) := by decide +kernel
theorem d_Model_checkNew_231 : decode b_Model_checkNew 231 = .ok (.iaload, 1) := by decide +kernel
theorem d_Model_checkNew_232 : decode b_Model_checkNew 232 = .ok (.laload, 1) := by decide +kernel
theorem d_Model_checkNew_233 : decode b_Model_checkNew 233 = .ok (.invokevirtual 612, 3) := by decide +kernel
theorem d_Model_checkNew_236 : decode b_Model_checkNew 236 = .ok (.istore 6, 2) := by decide +kernel
theorem d_Model_checkNew_238 : decode b_Model_checkNew 238 = .ok (.iload 6, 2) := by decide +kernel
theorem d_Model_checkNew_240 : decode b_Model_checkNew 240 = .ok (.ifCond .ge 19, 3) := by decide +kernel
theorem d_Model_checkNew_243 : decode b_Model_checkNew 243 = .ok (.aload_n 0, 1) := by decide +kernel
theorem d_Model_checkNew_244 : decode b_Model_checkNew 244 = .ok (.iconst 3, 1) := by decide +kernel
theorem d_Model_checkNew_245 : decode b_Model_checkNew 245 = .ok (.aload_n 0, 1) := by decide +kernel
theorem d_Model_checkNew_246 : decode b_Model_checkNew 246 = .ok (.getfield 141, 3) := by decide +kernel
theorem d_Model_checkNew_249 : decode b_Model_checkNew 249 = .ok (.aload_n 0, 1) := by decide +kernel
theorem d_Model_checkNew_250 : decode b_Model_checkNew 250 = .ok (.getfield 126, 3) := by decide +kernel
theorem d_Model_checkNew_253 : decode b_Model_checkNew 253 = .ok (.iload_n 1, 1) := by decide +kernel
theorem d_Model_checkNew_254 : decode b_Model_checkNew 254 = .ok (.iaload, 1) := by decide +kernel
theorem d_Model_checkNew_255 : decode b_Model_checkNew 255 = .ok (.iaload, 1) := by decide +kernel
theorem d_Model_checkNew_256 : decode b_Model_checkNew 256 = .ok (.invokevirtual 381, 3) := by decide +kernel
theorem d_Model_checkNew_259 : decode b_Model_checkNew 259 = .ok (.aload_n 0, 1) := by decide +kernel
theorem d_Model_checkNew_260 : decode b_Model_checkNew 260 = .ok (.invokevirtual 385, 3) := by decide +kernel
theorem d_Model_checkNew_263 : decode b_Model_checkNew 263 = .ok (.ifCond .eq 5, 3) := by decide +kernel
theorem d_Model_checkNew_266 : decode b_Model_checkNew 266 = .ok (.iconst 0, 1) := by decide +kernel
theorem d_Model_checkNew_267 : decode b_Model_checkNew 267 = .ok (.ireturn, 1) := by decide +kernel
theorem d_Model_checkNew_268 : decode b_Model_checkNew 268 = .ok (.aload_n 0, 1) := by decide +kernel
theorem d_Model_checkNew_269 : decode b_Model_checkNew 269 = .ok (.getfield 153, 3) := by decide +kernel
theorem d_Model_checkNew_272 : decode b_Model_checkNew 272 = .ok (.aload_n 0, 1) := by decide +kernel
theorem d_Model_checkNew_273 : decode b_Model_checkNew 273 = .ok (.getfield 126, 3) := by decide +kernel
theorem d_Model_checkNew_276 : decode b_Model_checkNew 276 = .ok (.iload_n 1, 1) := by decide +kernel
theorem d_Model_checkNew_277 : decode b_Model_checkNew 277 = .ok (.iaload, 1) := by decide +kernel
theorem d_Model_checkNew_278 : decode b_Model_checkNew 278 = .ok (.iload 6, 2) := by decide +kernel
theorem d_Model_checkNew_280 : decode b_Model_checkNew 280 = .ok (.iastore, 1) := by decide +kernel
theorem d_Model_checkNew_281 : decode b_Model_checkNew 281 = .ok (.aload_n 0, 1) := by decide +kernel
theorem d_Model_checkNew_282 : decode b_Model_checkNew 282 = .ok (.getfield 126, 3) := by decide +kernel
theorem d_Model_checkNew_285 : decode b_Model_checkNew 285 = .ok (.aload_n 0, 1) := by decide +kernel
theorem d_Model_checkNew_286 : decode b_Model_checkNew 286 = .ok (.getfield 126, 3) := by decide +kernel
theorem d_Model_checkNew_289 : decode b_Model_checkNew 289 = .ok (.iload_n 1, 1) := by decide +kernel
theorem d_Model_checkNew_290 : decode b_Model_checkNew 290 = .ok (.iaload, 1) := by decide +kernel
theorem d_Model_checkNew_291 : decode b_Model_checkNew 291 = .ok (.iaload, 1) := by decide +kernel
theorem d_Model_checkNew_292 : decode b_Model_checkNew 292 = .ok (.istore 7, 2) := by decide +kernel
theorem d_Model_checkNew_294 : decode b_Model_checkNew 294 = .ok (.aload_n 0, 1) := by decide +kernel
theorem d_Model_checkNew_295 : decode b_Model_checkNew 295 = .ok (.iload 7, 2) := by decide +kernel
theorem d_Model_checkNew_297 : decode b_Model_checkNew 297 = .ok (.invokevirtual 652, 3) := by decide +kernel
theorem d_Model_checkNew_300 : decode b_Model_checkNew 300 = .ok (.istore 8, 2) := by decide +kernel
theorem d_Model_checkNew_302 : decode b_Model_checkNew 302 = .ok (.aload_n 0, 1) := by decide +kernel
theorem d_Model_checkNew_303 : decode b_Model_checkNew 303 = .ok (.iload 8, 2) := by decide +kernel
theorem d_Model_checkNew_305 : decode b_Model_checkNew 305 = .ok (.aload_n 0, 1) := by decide +kernel
theorem d_Model_checkNew_306 : decode b_Model_checkNew 306 = .ok (.aload_n 0, 1) := by decide +kernel
theorem d_Model_checkNew_307 : decode b_Model_checkNew 307 = .ok (.getfield 51, 3) := by decide +kernel
theorem d_Model_checkNew_310 : decode b_Model_checkNew 310 = .ok (.aload_n 0, 1) := by decide +kernel
theorem d_Model_checkNew_311 : decode b_Model_checkNew 311 = .ok (.getfield 36, 3) := by decide +kernel
theorem d_Model_checkNew_314 : decode b_Model_checkNew 314 = .ok (.iload_n 3, 1) := by decide +kernel
theorem d_Model_checkNew_315 : decode b_Model_checkNew 315 = .ok (.iaload, 1) := by decide +kernel
theorem d_Model_checkNew_316 : decode b_Model_checkNew 316 = .ok (.iload 6, 2) := by decide +kernel
theorem d_Model_checkNew_318 : decode b_Model_checkNew 318 = .ok (.iadd, 1) := by decide +kernel
theorem d_Model_checkNew_319 : decode b_Model_checkNew 319 = .ok (.iaload, 1) := by decide +kernel
theorem d_Model_checkNew_320 : decode b_Model_checkNew 320 = .ok (.iload 4, 2) := by decide +kernel
theorem d_Model_checkNew_322 : decode b_Model_checkNew 322 = .ok (.invokevirtual 553, 3) := by decide +kernel
theorem d_Model_checkNew_325 : decode b_Model_checkNew 325 = .ok (.aload_n 0, 1) := by decide +kernel
theorem d_Model_checkNew_326 : decode b_Model_checkNew 326 = .ok (.getfield 123, 3) := by decide +kernel
theorem d_Model_checkNew_329 : decode b_Model_checkNew 329 = .ok (.iload 7, 2) := by decide +kernel
theorem d_Model_checkNew_331 : decode b_Model_checkNew 331 = .ok (.iaload, 1) := by decide +kernel
theorem d_Model_checkNew_332 : decode b_Model_checkNew 332 = .ok (.invokevirtual 688, 3) := by decide +kernel
theorem d_Model_checkNew_335 : decode b_Model_checkNew 335 = .ok (.goto 11, 3) := by decide +kernel
theorem d_Model_checkNew_338 : decode b_Model_checkNew 338 = .ok (.aload_n 0, 1) := by decide +kernel
theorem d_Model_checkNew_339 : decode b_Model_checkNew 339 = .ok (.iload_n 1, 1) := by decide +kernel
theorem d_Model_checkNew_340 : decode b_Model_checkNew 340 = .ok (.iload_n 3, 1) := by decide +kernel
theorem d_Model_checkNew_341 : decode b_Model_checkNew 341 = .ok (.iload 4, 2) := by decide +kernel
theorem d_Model_checkNew_343 : decode b_Model_checkNew 343 = .ok (.invokevirtual 768, 3) := by decide +kernel
theorem d_Model_checkNew_346 : decode b_Model_checkNew 346 = .ok (.aload_n 0, 1) := by decide +kernel
theorem d_Model_checkNew_347 : decode b_Model_checkNew 347 = .ok (.invokevirtual 385, 3) := by decide +kernel
theorem d_Model_checkNew_350 : decode b_Model_checkNew 350 = .ok (.ifCond .eq 5, 3) := by decide +kernel
theorem d_Model_checkNew_353 : decode b_Model_checkNew 353 = .ok (.iconst 0, 1) := by decide +kernel
theorem d_Model_checkNew_354 : decode b_Model_checkNew 354 = .ok (.ireturn, 1) := by decide +kernel
theorem d_Model_checkNew_355 : decode b_Model_checkNew 355 = .ok (.aload_n 0, 1) := by decide +kernel
theorem d_Model_checkNew_356 : decode b_Model_checkNew 356 = .ok (.dup, 1) := by decide +kernel
theorem d_Model_checkNew_357 : decode b_Model_checkNew 357 = .ok (.getfield 765, 3) := by decide +kernel
theorem fl_Model_765 : Cond.fieldLink R_Model 765 "PointerHouseModel" "makes" "I" ∈ lw_good := lg_right (i := 1910) (by decide +kernel) rfl
theorem d_Model_checkNew_360 : decode b_Model_checkNew 360 = .ok (.iconst 1, 1) := by decide +kernel
theorem d_Model_checkNew_361 : decode b_Model_checkNew 361 = .ok (.iadd, 1) := by decide +kernel
theorem d_Model_checkNew_362 : decode b_Model_checkNew 362 = .ok (.putfield 765, 3) := by decide +kernel
theorem d_Model_checkNew_365 : decode b_Model_checkNew 365 = .ok (.aload_n 0, 1) := by decide +kernel
theorem d_Model_checkNew_366 : decode b_Model_checkNew 366 = .ok (.iconst 1, 1) := by decide +kernel
theorem d_Model_checkNew_367 : decode b_Model_checkNew 367 = .ok (.iload_n 2, 1) := by decide +kernel
theorem d_Model_checkNew_368 : decode b_Model_checkNew 368 = .ok (.iconst (-1), 1) := by decide +kernel
theorem d_Model_checkNew_369 : decode b_Model_checkNew 369 = .ok (.iload_n 3, 1) := by decide +kernel
theorem d_Model_checkNew_370 : decode b_Model_checkNew 370 = .ok (.iload 4, 2) := by decide +kernel
theorem d_Model_checkNew_372 : decode b_Model_checkNew 372 = .ok (.invokevirtual 556, 3) := by decide +kernel
theorem d_Model_checkNew_375 : decode b_Model_checkNew 375 = .ok (.ireturn, 1) := by decide +kernel
abbrev b_Model_checkMade : ByteArray := prog_14_method_95_code
abbrev y_Model_checkMade : MethodName := ⟨R_Model, "checkMade", "(I)I"⟩
theorem co_Model_checkMade : Cond.code y_Model_checkMade b_Model_checkMade 5 (some .int) ∈ lw_good := lg_in (tin_11 _ (List.mem_of_getElem? (i := 210) rfl)) rfl
abbrev w_Model_checkMade : List Cond := Cond.code y_Model_checkMade b_Model_checkMade 5 (some .int) :: lw_good
theorem im_Model_checkMade : Cond.instanceMethod y_Model_checkMade ∈ lw_good := lg_right (i := 2609) (by decide +kernel) rfl
theorem se_Model_checkMade : Cond.selects R_Model y_Model_checkMade y_Model_checkMade ∈ lw_good := lg_left (i := 179) (by decide +kernel) rfl
theorem d_Model_checkMade_0 : decode b_Model_checkMade 0 = .ok (.aload_n 0, 1) := by decide +kernel
theorem d_Model_checkMade_1 : decode b_Model_checkMade 1 = .ok (.aload_n 0, 1) := by decide +kernel
theorem d_Model_checkMade_2 : decode b_Model_checkMade 2 = .ok (.getfield 144, 3) := by decide +kernel
theorem d_Model_checkMade_5 : decode b_Model_checkMade 5 = .ok (.iload_n 1, 1) := by decide +kernel
theorem d_Model_checkMade_6 : decode b_Model_checkMade 6 = .ok (.iaload, 1) := by decide +kernel
theorem d_Model_checkMade_7 : decode b_Model_checkMade 7 = .ok (.invokevirtual 762, 3) := by decide +kernel
theorem d_Model_checkMade_10 : decode b_Model_checkMade 10 = .ok (.istore_n 2, 1) := by decide +kernel
theorem d_Model_checkMade_11 : decode b_Model_checkMade 11 = .ok (.aload_n 0, 1) := by decide +kernel
theorem d_Model_checkMade_12 : decode b_Model_checkMade 12 = .ok (.getfield 120, 3) := by decide +kernel
theorem d_Model_checkMade_15 : decode b_Model_checkMade 15 = .ok (.iload_n 1, 1) := by decide +kernel
theorem d_Model_checkMade_16 : decode b_Model_checkMade 16 = .ok (.iaload, 1) := by decide +kernel
theorem d_Model_checkMade_17 : decode b_Model_checkMade 17 = .ok (.bipush 9, 2) := by decide +kernel
theorem d_Model_checkMade_19 : decode b_Model_checkMade 19 = .ok (.if_icmp .ne 20, 3) := by decide +kernel
theorem d_Model_checkMade_22 : decode b_Model_checkMade 22 = .ok (.aload_n 0, 1) := by decide +kernel
theorem d_Model_checkMade_23 : decode b_Model_checkMade 23 = .ok (.invokevirtual 385, 3) := by decide +kernel
theorem d_Model_checkMade_26 : decode b_Model_checkMade 26 = .ok (.ifCond .ne 13, 3) := by decide +kernel
theorem d_Model_checkMade_29 : decode b_Model_checkMade 29 = .ok (.aload_n 0, 1) := by decide +kernel
theorem d_Model_checkMade_30 : decode b_Model_checkMade 30 = .ok (.aload_n 0, 1) := by decide +kernel
theorem d_Model_checkMade_31 : decode b_Model_checkMade 31 = .ok (.getfield 126, 3) := by decide +kernel
theorem d_Model_checkMade_34 : decode b_Model_checkMade 34 = .ok (.iload_n 1, 1) := by decide +kernel
theorem d_Model_checkMade_35 : decode b_Model_checkMade 35 = .ok (.iaload, 1) := by decide +kernel
theorem d_Model_checkMade_36 : decode b_Model_checkMade 36 = .ok (.invokevirtual 667, 3) := by decide +kernel
theorem d_Model_checkMade_39 : decode b_Model_checkMade 39 = .ok (.aload_n 0, 1) := by decide +kernel
theorem d_Model_checkMade_40 : decode b_Model_checkMade 40 = .ok (.getfield 120, 3) := by decide +kernel
theorem d_Model_checkMade_43 : decode b_Model_checkMade 43 = .ok (.iload_n 1, 1) := by decide +kernel
theorem d_Model_checkMade_44 : decode b_Model_checkMade 44 = .ok (.iaload, 1) := by decide +kernel
theorem d_Model_checkMade_45 : decode b_Model_checkMade 45 = .ok (.bipush 9, 2) := by decide +kernel
theorem d_Model_checkMade_47 : decode b_Model_checkMade 47 = .ok (.if_icmp .ne 12, 3) := by decide +kernel
theorem d_Model_checkMade_50 : decode b_Model_checkMade 50 = .ok (.aload_n 0, 1) := by decide +kernel
theorem d_Model_checkMade_51 : decode b_Model_checkMade 51 = .ok (.getfield 129, 3) := by decide +kernel
theorem d_Model_checkMade_54 : decode b_Model_checkMade 54 = .ok (.iload_n 1, 1) := by decide +kernel
theorem d_Model_checkMade_55 : decode b_Model_checkMade 55 = .ok (.iaload, 1) := by decide +kernel
theorem d_Model_checkMade_56 : decode b_Model_checkMade 56 = .ok (.goto 9, 3) := by decide +kernel
theorem d_Model_checkMade_59 : decode b_Model_checkMade 59 = .ok (.aload_n 0, 1) := by decide +kernel
theorem d_Model_checkMade_60 : decode b_Model_checkMade 60 = .ok (.getfield 126, 3) := by decide +kernel
theorem d_Model_checkMade_63 : decode b_Model_checkMade 63 = .ok (.iload_n 1, 1) := by decide +kernel
theorem d_Model_checkMade_64 : decode b_Model_checkMade 64 = .ok (.iaload, 1) := by decide +kernel
theorem d_Model_checkMade_65 : decode b_Model_checkMade 65 = .ok (.istore_n 3, 1) := by decide +kernel
theorem d_Model_checkMade_66 : decode b_Model_checkMade 66 = .ok (.aload_n 0, 1) := by decide +kernel
theorem d_Model_checkMade_67 : decode b_Model_checkMade 67 = .ok (.iload_n 3, 1) := by decide +kernel
theorem d_Model_checkMade_68 : decode b_Model_checkMade 68 = .ok (.invokevirtual 652, 3) := by decide +kernel
theorem d_Model_checkMade_71 : decode b_Model_checkMade 71 = .ok (.istore 4, 2) := by decide +kernel
theorem d_Model_checkMade_73 : decode b_Model_checkMade 73 = .ok (.aload_n 0, 1) := by decide +kernel
theorem d_Model_checkMade_74 : decode b_Model_checkMade 74 = .ok (.invokevirtual 385, 3) := by decide +kernel
theorem d_Model_checkMade_77 : decode b_Model_checkMade 77 = .ok (.ifCond .ne 19, 3) := by decide +kernel
theorem d_Model_checkMade_80 : decode b_Model_checkMade 80 = .ok (.iload 4, 2) := by decide +kernel
theorem d_Model_checkMade_82 : decode b_Model_checkMade 82 = .ok (.ifCond .ge 14, 3) := by decide +kernel
theorem d_Model_checkMade_85 : decode b_Model_checkMade 85 = .ok (.aload_n 0, 1) := by decide +kernel
theorem d_Model_checkMade_86 : decode b_Model_checkMade 86 = .ok (.iconst 4, 1) := by decide +kernel
theorem d_Model_checkMade_87 : decode b_Model_checkMade 87 = .ok (.aload_n 0, 1) := by decide +kernel
theorem d_Model_checkMade_88 : decode b_Model_checkMade 88 = .ok (.getfield 123, 3) := by decide +kernel
theorem d_Model_checkMade_91 : decode b_Model_checkMade 91 = .ok (.iload_n 3, 1) := by decide +kernel
theorem d_Model_checkMade_92 : decode b_Model_checkMade 92 = .ok (.iaload, 1) := by decide +kernel
theorem d_Model_checkMade_93 : decode b_Model_checkMade 93 = .ok (.invokevirtual 381, 3) := by decide +kernel
theorem d_Model_checkMade_96 : decode b_Model_checkMade 96 = .ok (.aload_n 0, 1) := by decide +kernel
theorem d_Model_checkMade_97 : decode b_Model_checkMade 97 = .ok (.invokevirtual 385, 3) := by decide +kernel
theorem d_Model_checkMade_100 : decode b_Model_checkMade 100 = .ok (.ifCond .eq 5, 3) := by decide +kernel
theorem d_Model_checkMade_103 : decode b_Model_checkMade 103 = .ok (.iconst 0, 1) := by decide +kernel
theorem d_Model_checkMade_104 : decode b_Model_checkMade 104 = .ok (.ireturn, 1) := by decide +kernel
theorem d_Model_checkMade_105 : decode b_Model_checkMade 105 = .ok (.aload_n 0, 1) := by decide +kernel
theorem d_Model_checkMade_106 : decode b_Model_checkMade 106 = .ok (.dup, 1) := by decide +kernel
theorem d_Model_checkMade_107 : decode b_Model_checkMade 107 = .ok (.getfield 765, 3) := by decide +kernel
theorem d_Model_checkMade_110 : decode b_Model_checkMade 110 = .ok (.iconst 1, 1) := by decide +kernel
theorem d_Model_checkMade_111 : decode b_Model_checkMade 111 = .ok (.iadd, 1) := by decide +kernel
theorem d_Model_checkMade_112 : decode b_Model_checkMade 112 = .ok (.putfield 765, 3) := by decide +kernel
theorem d_Model_checkMade_115 : decode b_Model_checkMade 115 = .ok (.aload_n 0, 1) := by decide +kernel
theorem d_Model_checkMade_116 : decode b_Model_checkMade 116 = .ok (.aload_n 0, 1) := by decide +kernel
theorem d_Model_checkMade_117 : decode b_Model_checkMade 117 = .ok (.getfield 120, 3) := by decide +kernel
theorem d_Model_checkMade_120 : decode b_Model_checkMade 120 = .ok (.iload_n 1, 1) := by decide +kernel
theorem d_Model_checkMade_121 : decode b_Model_checkMade 121 = .ok (.iaload, 1) := by decide +kernel
theorem d_Model_checkMade_122 : decode b_Model_checkMade 122 = .ok (.bipush 9, 2) := by decide +kernel
theorem d_Model_checkMade_124 : decode b_Model_checkMade 124 = .ok (.if_icmp .ne 7, 3) := by decide +kernel
theorem d_Model_checkMade_127 : decode b_Model_checkMade 127 = .ok (.iconst 3, 1) := by decide +kernel
theorem d_Model_checkMade_128 : decode b_Model_checkMade 128 = .ok (.goto 4, 3) := by decide +kernel
theorem d_Model_checkMade_131 : decode b_Model_checkMade 131 = .ok (.iconst 1, 1) := by decide +kernel
theorem d_Model_checkMade_132 : decode b_Model_checkMade 132 = .ok (.iload_n 2, 1) := by decide +kernel
theorem d_Model_checkMade_133 : decode b_Model_checkMade 133 = .ok (.iload 4, 2) := by decide +kernel
theorem d_Model_checkMade_135 : decode b_Model_checkMade 135 = .ok (.iconst (-1), 1) := by decide +kernel
theorem d_Model_checkMade_136 : decode b_Model_checkMade 136 = .ok (.iconst 0, 1) := by decide +kernel
theorem d_Model_checkMade_137 : decode b_Model_checkMade 137 = .ok (.invokevirtual 556, 3) := by decide +kernel
theorem d_Model_checkMade_140 : decode b_Model_checkMade 140 = .ok (.ireturn, 1) := by decide +kernel
abbrev b_Model_checkAnd : ByteArray := prog_14_method_94_code
abbrev y_Model_checkAnd : MethodName := ⟨R_Model, "checkAnd", "(I)I"⟩
theorem co_Model_checkAnd : Cond.code y_Model_checkAnd b_Model_checkAnd 5 (some .int) ∈ lw_good := lg_in (tin_11 _ (List.mem_of_getElem? (i := 218) rfl)) rfl
abbrev w_Model_checkAnd : List Cond := Cond.code y_Model_checkAnd b_Model_checkAnd 5 (some .int) :: lw_good
theorem im_Model_checkAnd : Cond.instanceMethod y_Model_checkAnd ∈ lw_good := lg_right (i := 2617) (by decide +kernel) rfl
theorem se_Model_checkAnd : Cond.selects R_Model y_Model_checkAnd y_Model_checkAnd ∈ lw_good := lg_left (i := 181) (by decide +kernel) rfl
theorem d_Model_checkAnd_0 : decode b_Model_checkAnd 0 = .ok (.aload_n 0, 1) := by decide +kernel
theorem d_Model_checkAnd_1 : decode b_Model_checkAnd 1 = .ok (.getfield 126, 3) := by decide +kernel
theorem d_Model_checkAnd_4 : decode b_Model_checkAnd 4 = .ok (.iload_n 1, 1) := by decide +kernel
theorem d_Model_checkAnd_5 : decode b_Model_checkAnd 5 = .ok (.iaload, 1) := by decide +kernel
theorem d_Model_checkAnd_6 : decode b_Model_checkAnd 6 = .ok (.istore_n 2, 1) := by decide +kernel
theorem d_Model_checkAnd_7 : decode b_Model_checkAnd 7 = .ok (.aload_n 0, 1) := by decide +kernel
theorem d_Model_checkAnd_8 : decode b_Model_checkAnd 8 = .ok (.getfield 120, 3) := by decide +kernel
theorem d_Model_checkAnd_11 : decode b_Model_checkAnd 11 = .ok (.iload_n 2, 1) := by decide +kernel
theorem d_Model_checkAnd_12 : decode b_Model_checkAnd 12 = .ok (.iaload, 1) := by decide +kernel
theorem d_Model_checkAnd_13 : decode b_Model_checkAnd 13 = .ok (.bipush 14, 2) := by decide +kernel
theorem d_Model_checkAnd_15 : decode b_Model_checkAnd 15 = .ok (.if_icmp .eq 27, 3) := by decide +kernel
theorem d_Model_checkAnd_18 : decode b_Model_checkAnd 18 = .ok (.aload_n 0, 1) := by decide +kernel
theorem d_Model_checkAnd_19 : decode b_Model_checkAnd 19 = .ok (.getfield 120, 3) := by decide +kernel
theorem d_Model_checkAnd_22 : decode b_Model_checkAnd 22 = .ok (.iload_n 2, 1) := by decide +kernel
theorem d_Model_checkAnd_23 : decode b_Model_checkAnd 23 = .ok (.iaload, 1) := by decide +kernel
theorem d_Model_checkAnd_24 : decode b_Model_checkAnd 24 = .ok (.bipush 15, 2) := by decide +kernel
theorem d_Model_checkAnd_26 : decode b_Model_checkAnd 26 = .ok (.if_icmp .eq 16, 3) := by decide +kernel
theorem d_Model_checkAnd_29 : decode b_Model_checkAnd 29 = .ok (.aload_n 0, 1) := by decide +kernel
theorem d_Model_checkAnd_30 : decode b_Model_checkAnd 30 = .ok (.iconst 4, 1) := by decide +kernel
theorem d_Model_checkAnd_31 : decode b_Model_checkAnd 31 = .ok (.aload_n 0, 1) := by decide +kernel
theorem d_Model_checkAnd_32 : decode b_Model_checkAnd 32 = .ok (.getfield 123, 3) := by decide +kernel
theorem d_Model_checkAnd_35 : decode b_Model_checkAnd 35 = .ok (.iload_n 2, 1) := by decide +kernel
theorem d_Model_checkAnd_36 : decode b_Model_checkAnd 36 = .ok (.iaload, 1) := by decide +kernel
theorem d_Model_checkAnd_37 : decode b_Model_checkAnd 37 = .ok (.invokevirtual 381, 3) := by decide +kernel
theorem d_Model_checkAnd_40 : decode b_Model_checkAnd 40 = .ok (.iconst 0, 1) := by decide +kernel
theorem d_Model_checkAnd_41 : decode b_Model_checkAnd 41 = .ok (.ireturn, 1) := by decide +kernel
theorem d_Model_checkAnd_42 : decode b_Model_checkAnd 42 = .ok (.aload_n 0, 1) := by decide +kernel
theorem d_Model_checkAnd_43 : decode b_Model_checkAnd 43 = .ok (.iload_n 2, 1) := by decide +kernel
theorem d_Model_checkAnd_44 : decode b_Model_checkAnd 44 = .ok (.invokevirtual 652, 3) := by decide +kernel
theorem d_Model_checkAnd_47 : decode b_Model_checkAnd 47 = .ok (.istore_n 3, 1) := by decide +kernel
theorem d_Model_checkAnd_48 : decode b_Model_checkAnd 48 = .ok (.aload_n 0, 1) := by decide +kernel
theorem d_Model_checkAnd_49 : decode b_Model_checkAnd 49 = .ok (.invokevirtual 385, 3) := by decide +kernel
theorem d_Model_checkAnd_52 : decode b_Model_checkAnd 52 = .ok (.ifCond .eq 5, 3) := by decide +kernel
theorem d_Model_checkAnd_55 : decode b_Model_checkAnd 55 = .ok (.iconst 0, 1) := by decide +kernel
theorem d_Model_checkAnd_56 : decode b_Model_checkAnd 56 = .ok (.ireturn, 1) := by decide +kernel
theorem d_Model_checkAnd_57 : decode b_Model_checkAnd 57 = .ok (.aload_n 0, 1) := by decide +kernel
theorem d_Model_checkAnd_58 : decode b_Model_checkAnd 58 = .ok (.getfield 150, 3) := by decide +kernel
theorem d_Model_checkAnd_61 : decode b_Model_checkAnd 61 = .ok (.aload_n 0, 1) := by decide +kernel
theorem d_Model_checkAnd_62 : decode b_Model_checkAnd 62 = .ok (.getfield 126, 3) := by decide +kernel
theorem d_Model_checkAnd_65 : decode b_Model_checkAnd 65 = .ok (.iload_n 2, 1) := by decide +kernel
theorem d_Model_checkAnd_66 : decode b_Model_checkAnd 66 = .ok (.iaload, 1) := by decide +kernel
theorem d_Model_checkAnd_67 : decode b_Model_checkAnd 67 = .ok (.iaload, 1) := by decide +kernel
theorem d_Model_checkAnd_68 : decode b_Model_checkAnd 68 = .ok (.istore 4, 2) := by decide +kernel
theorem d_Model_checkAnd_70 : decode b_Model_checkAnd 70 = .ok (.aload_n 0, 1) := by decide +kernel
theorem d_Model_checkAnd_71 : decode b_Model_checkAnd 71 = .ok (.getfield 120, 3) := by decide +kernel
theorem d_Model_checkAnd_74 : decode b_Model_checkAnd 74 = .ok (.iload_n 2, 1) := by decide +kernel
theorem d_Model_checkAnd_75 : decode b_Model_checkAnd 75 = .ok (.iaload, 1) := by decide +kernel
theorem d_Model_checkAnd_76 : decode b_Model_checkAnd 76 = .ok (.bipush 14, 2) := by decide +kernel
theorem d_Model_checkAnd_78 : decode b_Model_checkAnd 78 = .ok (.if_icmp .ne 30, 3) := by decide +kernel
theorem d_Model_checkAnd_81 : decode b_Model_checkAnd 81 = .ok (.aload_n 0, 1) := by decide +kernel
theorem d_Model_checkAnd_82 : decode b_Model_checkAnd 82 = .ok (.getfield 17, 3) := by decide +kernel
theorem d_Model_checkAnd_85 : decode b_Model_checkAnd 85 = .ok (.aload_n 0, 1) := by decide +kernel
theorem d_Model_checkAnd_86 : decode b_Model_checkAnd 86 = .ok (.getfield 165, 3) := by decide +kernel
theorem d_Model_checkAnd_89 : decode b_Model_checkAnd 89 = .ok (.iload 4, 2) := by decide +kernel
theorem d_Model_checkAnd_91 : decode b_Model_checkAnd 91 = .ok (.iaload, 1) := by decide +kernel
theorem d_Model_checkAnd_92 : decode b_Model_checkAnd 92 = .ok (.iaload, 1) := by decide +kernel
theorem d_Model_checkAnd_93 : decode b_Model_checkAnd 93 = .ok (.iconst 1, 1) := by decide +kernel
theorem d_Model_checkAnd_94 : decode b_Model_checkAnd 94 = .ok (.if_icmp .ne 14, 3) := by decide +kernel
theorem d_Model_checkAnd_97 : decode b_Model_checkAnd 97 = .ok (.aload_n 0, 1) := by decide +kernel
theorem d_Model_checkAnd_98 : decode b_Model_checkAnd 98 = .ok (.iconst 4, 1) := by decide +kernel
theorem d_Model_checkAnd_99 : decode b_Model_checkAnd 99 = .ok (.aload_n 0, 1) := by decide +kernel
theorem d_Model_checkAnd_100 : decode b_Model_checkAnd 100 = .ok (.getfield 123, 3) := by decide +kernel
theorem d_Model_checkAnd_103 : decode b_Model_checkAnd 103 = .ok (.iload_n 2, 1) := by decide +kernel
theorem d_Model_checkAnd_104 : decode b_Model_checkAnd 104 = .ok (.iaload, 1) := by decide +kernel
theorem d_Model_checkAnd_105 : decode b_Model_checkAnd 105 = .ok (.invokevirtual 381, 3) := by decide +kernel
theorem d_Model_checkAnd_108 : decode b_Model_checkAnd 108 = .ok (.aload_n 0, 1) := by decide +kernel
theorem d_Model_checkAnd_109 : decode b_Model_checkAnd 109 = .ok (.invokevirtual 385, 3) := by decide +kernel
theorem d_Model_checkAnd_112 : decode b_Model_checkAnd 112 = .ok (.ifCond .eq 7, 3) := by decide +kernel
theorem d_Model_checkAnd_115 : decode b_Model_checkAnd 115 = .ok (.iconst 0, 1) := by decide +kernel
theorem d_Model_checkAnd_116 : decode b_Model_checkAnd 116 = .ok (.goto 18, 3) := by decide +kernel
theorem d_Model_checkAnd_119 : decode b_Model_checkAnd 119 = .ok (.aload_n 0, 1) := by decide +kernel
theorem d_Model_checkAnd_120 : decode b_Model_checkAnd 120 = .ok (.iconst 1, 1) := by decide +kernel
theorem d_Model_checkAnd_121 : decode b_Model_checkAnd 121 = .ok (.aload_n 0, 1) := by decide +kernel
theorem d_Model_checkAnd_122 : decode b_Model_checkAnd 122 = .ok (.getfield 159, 3) := by decide +kernel
theorem d_Model_checkAnd_125 : decode b_Model_checkAnd 125 = .ok (.iload 4, 2) := by decide +kernel
theorem d_Model_checkAnd_127 : decode b_Model_checkAnd 127 = .ok (.iaload, 1) := by decide +kernel
theorem d_Model_checkAnd_128 : decode b_Model_checkAnd 128 = .ok (.iload_n 3, 1) := by decide +kernel
theorem d_Model_checkAnd_129 : decode b_Model_checkAnd 129 = .ok (.iconst (-1), 1) := by decide +kernel
theorem d_Model_checkAnd_130 : decode b_Model_checkAnd 130 = .ok (.iconst 0, 1) := by decide +kernel
theorem d_Model_checkAnd_131 : decode b_Model_checkAnd 131 = .ok (.invokevirtual 556, 3) := by decide +kernel
theorem d_Model_checkAnd_134 : decode b_Model_checkAnd 134 = .ok (.ireturn, 1) := by decide +kernel
abbrev b_Model_checkOperator : ByteArray := prog_14_method_99_code
abbrev y_Model_checkOperator : MethodName := ⟨R_Model, "checkOperator", "(I)I"⟩
theorem co_Model_checkOperator : Cond.code y_Model_checkOperator b_Model_checkOperator 7 (some .int) ∈ lw_good := lg_in (tin_11 _ (List.mem_of_getElem? (i := 230) rfl)) rfl
abbrev w_Model_checkOperator : List Cond := Cond.code y_Model_checkOperator b_Model_checkOperator 7 (some .int) :: lw_good
theorem im_Model_checkOperator : Cond.instanceMethod y_Model_checkOperator ∈ lw_good := lg_right (i := 2629) (by decide +kernel) rfl
theorem se_Model_checkOperator : Cond.selects R_Model y_Model_checkOperator y_Model_checkOperator ∈ lw_good := lg_left (i := 184) (by decide +kernel) rfl
theorem d_Model_checkOperator_0 : decode b_Model_checkOperator 0 = .ok (.aload_n 0, 1) := by decide +kernel
theorem d_Model_checkOperator_1 : decode b_Model_checkOperator 1 = .ok (.getfield 150, 3) := by decide +kernel
theorem d_Model_checkOperator_4 : decode b_Model_checkOperator 4 = .ok (.aload_n 0, 1) := by decide +kernel
theorem d_Model_checkOperator_5 : decode b_Model_checkOperator 5 = .ok (.getfield 126, 3) := by decide +kernel
theorem d_Model_checkOperator_8 : decode b_Model_checkOperator 8 = .ok (.iload_n 1, 1) := by decide +kernel
theorem d_Model_checkOperator_9 : decode b_Model_checkOperator 9 = .ok (.iaload, 1) := by decide +kernel
theorem d_Model_checkOperator_10 : decode b_Model_checkOperator 10 = .ok (.iaload, 1) := by decide +kernel
theorem d_Model_checkOperator_11 : decode b_Model_checkOperator 11 = .ok (.istore_n 2, 1) := by decide +kernel
theorem d_Model_checkOperator_12 : decode b_Model_checkOperator 12 = .ok (.aload_n 0, 1) := by decide +kernel
theorem d_Model_checkOperator_13 : decode b_Model_checkOperator 13 = .ok (.aload_n 0, 1) := by decide +kernel
theorem d_Model_checkOperator_14 : decode b_Model_checkOperator 14 = .ok (.getfield 129, 3) := by decide +kernel
theorem d_Model_checkOperator_17 : decode b_Model_checkOperator 17 = .ok (.iload_n 1, 1) := by decide +kernel
theorem d_Model_checkOperator_18 : decode b_Model_checkOperator 18 = .ok (.iaload, 1) := by decide +kernel
theorem d_Model_checkOperator_19 : decode b_Model_checkOperator 19 = .ok (.invokevirtual 652, 3) := by decide +kernel
theorem d_Model_checkOperator_22 : decode b_Model_checkOperator 22 = .ok (.istore_n 3, 1) := by decide +kernel
theorem d_Model_checkOperator_23 : decode b_Model_checkOperator 23 = .ok (.aload_n 0, 1) := by decide +kernel
theorem d_Model_checkOperator_24 : decode b_Model_checkOperator 24 = .ok (.invokevirtual 385, 3) := by decide +kernel
theorem d_Model_checkOperator_27 : decode b_Model_checkOperator 27 = .ok (.ifCond .eq 5, 3) := by decide +kernel
theorem d_Model_checkOperator_30 : decode b_Model_checkOperator 30 = .ok (.iconst 0, 1) := by decide +kernel
theorem d_Model_checkOperator_31 : decode b_Model_checkOperator 31 = .ok (.ireturn, 1) := by decide +kernel
theorem d_Model_checkOperator_32 : decode b_Model_checkOperator 32 = .ok (.aload_n 0, 1) := by decide +kernel
theorem d_Model_checkOperator_33 : decode b_Model_checkOperator 33 = .ok (.getfield 132, 3) := by decide +kernel
theorem d_Model_checkOperator_36 : decode b_Model_checkOperator 36 = .ok (.iload_n 1, 1) := by decide +kernel
theorem d_Model_checkOperator_37 : decode b_Model_checkOperator 37 = .ok (.iaload, 1) := by decide +kernel
theorem d_Model_checkOperator_38 : decode b_Model_checkOperator 38 = .ok (.bipush 43, 2) := by decide +kernel
theorem d_Model_checkOperator_40 : decode b_Model_checkOperator 40 = .ok (.if_icmp .ne 17, 3) := by decide +kernel
theorem d_Model_checkOperator_43 : decode b_Model_checkOperator 43 = .ok (.aload_n 0, 1) := by decide +kernel
theorem d_Model_checkOperator_44 : decode b_Model_checkOperator 44 = .ok (.iload_n 2, 1) := by decide +kernel
theorem d_Model_checkOperator_45 : decode b_Model_checkOperator 45 = .ok (.invokevirtual 744, 3) := by decide +kernel
theorem d_Model_checkOperator_48 : decode b_Model_checkOperator 48 = .ok (.ifCond .eq 9, 3) := by decide +kernel
theorem d_Model_checkOperator_51 : decode b_Model_checkOperator 51 = .ok (.iload_n 3, 1) := by decide +kernel
theorem d_Model_checkOperator_52 : decode b_Model_checkOperator 52 = .ok (.ifCond .ne 5, 3) := by decide +kernel
theorem d_Model_checkOperator_55 : decode b_Model_checkOperator 55 = .ok (.iload_n 2, 1) := by decide +kernel
theorem d_Model_checkOperator_56 : decode b_Model_checkOperator 56 = .ok (.ireturn, 1) := by decide +kernel
theorem d_Model_checkOperator_57 : decode b_Model_checkOperator 57 = .ok (.iload_n 2, 1) := by decide +kernel
theorem d_Model_checkOperator_58 : decode b_Model_checkOperator 58 = .ok (.bipush (-2), 2) := by decide +kernel
theorem d_Model_checkOperator_60 : decode b_Model_checkOperator 60 = .ok (.if_icmp .eq 11, 3) := by decide +kernel
theorem d_Model_checkOperator_63 : decode b_Model_checkOperator 63 = .ok (.aload_n 0, 1) := by decide +kernel
theorem d_Model_checkOperator_64 : decode b_Model_checkOperator 64 = .ok (.iload_n 2, 1) := by decide +kernel
theorem d_Model_checkOperator_65 : decode b_Model_checkOperator 65 = .ok (.invokevirtual 560, 3) := by decide +kernel
theorem d_Model_checkOperator_68 : decode b_Model_checkOperator 68 = .ok (.ifCond .eq 7, 3) := by decide +kernel
theorem d_Model_checkOperator_71 : decode b_Model_checkOperator 71 = .ok (.iconst 1, 1) := by decide +kernel
theorem d_Model_checkOperator_72 : decode b_Model_checkOperator 72 = .ok (.goto 4, 3) := by decide +kernel
theorem d_Model_checkOperator_75 : decode b_Model_checkOperator 75 = .ok (.iconst 0, 1) := by decide +kernel
theorem d_Model_checkOperator_76 : decode b_Model_checkOperator 76 = .ok (.istore 4, 2) := by decide +kernel
theorem d_Model_checkOperator_78 : decode b_Model_checkOperator 78 = .ok (.iload_n 3, 1) := by decide +kernel
theorem d_Model_checkOperator_79 : decode b_Model_checkOperator 79 = .ok (.bipush (-2), 2) := by decide +kernel
theorem d_Model_checkOperator_81 : decode b_Model_checkOperator 81 = .ok (.if_icmp .eq 11, 3) := by decide +kernel
theorem d_Model_checkOperator_84 : decode b_Model_checkOperator 84 = .ok (.aload_n 0, 1) := by decide +kernel
theorem d_Model_checkOperator_85 : decode b_Model_checkOperator 85 = .ok (.iload_n 3, 1) := by decide +kernel
theorem d_Model_checkOperator_86 : decode b_Model_checkOperator 86 = .ok (.invokevirtual 560, 3) := by decide +kernel
theorem d_Model_checkOperator_89 : decode b_Model_checkOperator 89 = .ok (.ifCond .eq 7, 3) := by decide +kernel
theorem d_Model_checkOperator_92 : decode b_Model_checkOperator 92 = .ok (.iconst 1, 1) := by decide +kernel
theorem d_Model_checkOperator_93 : decode b_Model_checkOperator 93 = .ok (.goto 4, 3) := by decide +kernel
theorem d_Model_checkOperator_96 : decode b_Model_checkOperator 96 = .ok (.iconst 0, 1) := by decide +kernel
theorem d_Model_checkOperator_97 : decode b_Model_checkOperator 97 = .ok (.istore 5, 2) := by decide +kernel
theorem d_Model_checkOperator_99 : decode b_Model_checkOperator 99 = .ok (.aload_n 0, 1) := by decide +kernel
theorem d_Model_checkOperator_100 : decode b_Model_checkOperator 100 = .ok (.getfield 132, 3) := by decide +kernel
theorem d_Model_checkOperator_103 : decode b_Model_checkOperator 103 = .ok (.iload_n 1, 1) := by decide +kernel
theorem d_Model_checkOperator_104 : decode b_Model_checkOperator 104 = .ok (.iaload, 1) := by decide +kernel
theorem d_Model_checkOperator_105 : decode b_Model_checkOperator 105 = .ok (.sipush 256, 3) := by decide +kernel
theorem d_Model_checkOperator_108 : decode b_Model_checkOperator 108 = .ok (.if_icmp .ne 168, 3) := by decide +kernel
theorem d_Model_checkOperator_111 : decode b_Model_checkOperator 111 = .ok (.iload 4, 2) := by decide +kernel
theorem d_Model_checkOperator_113 : decode b_Model_checkOperator 113 = .ok (.ifCond .eq 163, 3) := by decide +kernel
theorem d_Model_checkOperator_116 : decode b_Model_checkOperator 116 = .ok (.iload 5, 2) := by decide +kernel
theorem d_Model_checkOperator_118 : decode b_Model_checkOperator 118 = .ok (.ifCond .eq 158, 3) := by decide +kernel
theorem d_Model_checkOperator_121 : decode b_Model_checkOperator 121 = .ok (.iload_n 2, 1) := by decide +kernel
theorem d_Model_checkOperator_122 : decode b_Model_checkOperator 122 = .ok (.bipush (-2), 2) := by decide +kernel
theorem d_Model_checkOperator_124 : decode b_Model_checkOperator 124 = .ok (.if_icmp .eq 9, 3) := by decide +kernel
theorem d_Model_checkOperator_127 : decode b_Model_checkOperator 127 = .ok (.iload_n 3, 1) := by decide +kernel
theorem d_Model_checkOperator_128 : decode b_Model_checkOperator 128 = .ok (.bipush (-2), 2) := by decide +kernel
theorem d_Model_checkOperator_130 : decode b_Model_checkOperator 130 = .ok (.if_icmp .ne 5, 3) := by decide +kernel
theorem d_Model_checkOperator_133 : decode b_Model_checkOperator 133 = .ok (.iconst 0, 1) := by decide +kernel
theorem d_Model_checkOperator_134 : decode b_Model_checkOperator 134 = .ok (.ireturn, 1) := by decide +kernel
theorem d_Model_checkOperator_135 : decode b_Model_checkOperator 135 = .ok (.aload_n 0, 1) := by decide +kernel
theorem d_Model_checkOperator_136 : decode b_Model_checkOperator 136 = .ok (.iload_n 2, 1) := by decide +kernel
theorem d_Model_checkOperator_137 : decode b_Model_checkOperator 137 = .ok (.iload_n 3, 1) := by decide +kernel
theorem d_Model_checkOperator_138 : decode b_Model_checkOperator 138 = .ok (.invokevirtual 596, 3) := by decide +kernel
theorem d_Model_checkOperator_141 : decode b_Model_checkOperator 141 = .ok (.ifCond .eq 45, 3) := by decide +kernel
theorem d_Model_checkOperator_144 : decode b_Model_checkOperator 144 = .ok (.aload_n 0, 1) := by decide +kernel
theorem d_Model_checkOperator_145 : decode b_Model_checkOperator 145 = .ok (.aload_n 0, 1) := by decide +kernel
theorem d_Model_checkOperator_146 : decode b_Model_checkOperator 146 = .ok (.getfield 159, 3) := by decide +kernel
theorem d_Model_checkOperator_149 : decode b_Model_checkOperator 149 = .ok (.iload_n 2, 1) := by decide +kernel
theorem d_Model_checkOperator_150 : decode b_Model_checkOperator 150 = .ok (.iaload, 1) := by decide +kernel
theorem d_Model_checkOperator_151 : decode b_Model_checkOperator 151 = .ok (.aload_n 0, 1) := by decide +kernel
theorem d_Model_checkOperator_152 : decode b_Model_checkOperator 152 = .ok (.getfield 159, 3) := by decide +kernel
theorem d_Model_checkOperator_155 : decode b_Model_checkOperator 155 = .ok (.iload_n 3, 1) := by decide +kernel
theorem d_Model_checkOperator_156 : decode b_Model_checkOperator 156 = .ok (.iaload, 1) := by decide +kernel
theorem d_Model_checkOperator_157 : decode b_Model_checkOperator 157 = .ok (.invokevirtual 600, 3) := by decide +kernel
theorem d_Model_checkOperator_160 : decode b_Model_checkOperator 160 = .ok (.ifCond .ne 22, 3) := by decide +kernel
theorem d_Model_checkOperator_163 : decode b_Model_checkOperator 163 = .ok (.aload_n 0, 1) := by decide +kernel
theorem d_Model_checkOperator_164 : decode b_Model_checkOperator 164 = .ok (.aload_n 0, 1) := by decide +kernel
theorem d_Model_checkOperator_165 : decode b_Model_checkOperator 165 = .ok (.getfield 159, 3) := by decide +kernel
theorem d_Model_checkOperator_168 : decode b_Model_checkOperator 168 = .ok (.iload_n 3, 1) := by decide +kernel
theorem d_Model_checkOperator_169 : decode b_Model_checkOperator 169 = .ok (.iaload, 1) := by decide +kernel
theorem d_Model_checkOperator_170 : decode b_Model_checkOperator 170 = .ok (.aload_n 0, 1) := by decide +kernel
theorem d_Model_checkOperator_171 : decode b_Model_checkOperator 171 = .ok (.getfield 159, 3) := by decide +kernel
theorem d_Model_checkOperator_174 : decode b_Model_checkOperator 174 = .ok (.iload_n 2, 1) := by decide +kernel
theorem d_Model_checkOperator_175 : decode b_Model_checkOperator 175 = .ok (.iaload, 1) := by decide +kernel
theorem d_Model_checkOperator_176 : decode b_Model_checkOperator 176 = .ok (.invokevirtual 600, 3) := by decide +kernel
theorem d_Model_checkOperator_179 : decode b_Model_checkOperator 179 = .ok (.ifCond .eq 7, 3) := by decide +kernel
theorem d_Model_checkOperator_182 : decode b_Model_checkOperator 182 = .ok (.iconst 1, 1) := by decide +kernel
theorem d_Model_checkOperator_183 : decode b_Model_checkOperator 183 = .ok (.goto 4, 3) := by decide +kernel
theorem d_Model_checkOperator_186 : decode b_Model_checkOperator 186 = .ok (.iconst 0, 1) := by decide +kernel
theorem d_Model_checkOperator_187 : decode b_Model_checkOperator 187 = .ok (.istore 6, 2) := by decide +kernel
theorem d_Model_checkOperator_189 : decode b_Model_checkOperator 189 = .ok (.iload 6, 2) := by decide +kernel
theorem d_Model_checkOperator_191 : decode b_Model_checkOperator 191 = .ok (.ifCond .ne 22, 3) := by decide +kernel
theorem d_Model_checkOperator_194 : decode b_Model_checkOperator 194 = .ok (.aload_n 0, 1) := by decide +kernel
theorem d_Model_checkOperator_195 : decode b_Model_checkOperator 195 = .ok (.iconst 4, 1) := by decide +kernel
theorem d_Model_checkOperator_196 : decode b_Model_checkOperator 196 = .ok (.aload_n 0, 1) := by decide +kernel
theorem d_Model_checkOperator_197 : decode b_Model_checkOperator 197 = .ok (.getfield 123, 3) := by decide +kernel
theorem d_Model_checkOperator_200 : decode b_Model_checkOperator 200 = .ok (.aload_n 0, 1) := by decide +kernel
theorem d_Model_checkOperator_201 : decode b_Model_checkOperator 201 = .ok (.getfield 129, 3) := by decide +kernel
theorem d_Model_checkOperator_204 : decode b_Model_checkOperator 204 = .ok (.iload_n 1, 1) := by decide +kernel
theorem d_Model_checkOperator_205 : decode b_Model_checkOperator 205 = .ok (.iaload, 1) := by decide +kernel
theorem d_Model_checkOperator_206 : decode b_Model_checkOperator 206 = .ok (.iaload, 1) := by decide +kernel
theorem d_Model_checkOperator_207 : decode b_Model_checkOperator 207 = .ok (.invokevirtual 381, 3) := by decide +kernel
theorem d_Model_checkOperator_210 : decode b_Model_checkOperator 210 = .ok (.goto 64, 3) := by decide +kernel
theorem d_Model_checkOperator_213 : decode b_Model_checkOperator 213 = .ok (.aload_n 0, 1) := by decide +kernel
theorem d_Model_checkOperator_214 : decode b_Model_checkOperator 214 = .ok (.aload_n 0, 1) := by decide +kernel
theorem d_Model_checkOperator_215 : decode b_Model_checkOperator 215 = .ok (.getfield 159, 3) := by decide +kernel
theorem d_Model_checkOperator_218 : decode b_Model_checkOperator 218 = .ok (.iload_n 2, 1) := by decide +kernel
theorem d_Model_checkOperator_219 : decode b_Model_checkOperator 219 = .ok (.iaload, 1) := by decide +kernel
theorem d_Model_checkOperator_220 : decode b_Model_checkOperator 220 = .ok (.invokevirtual 581, 3) := by decide +kernel
theorem d_Model_checkOperator_223 : decode b_Model_checkOperator 223 = .ok (.ifCond .ne 22, 3) := by decide +kernel
theorem d_Model_checkOperator_226 : decode b_Model_checkOperator 226 = .ok (.aload_n 0, 1) := by decide +kernel
theorem d_Model_checkOperator_227 : decode b_Model_checkOperator 227 = .ok (.iconst 5, 1) := by decide +kernel
theorem d_Model_checkOperator_228 : decode b_Model_checkOperator 228 = .ok (.aload_n 0, 1) := by decide +kernel
theorem d_Model_checkOperator_229 : decode b_Model_checkOperator 229 = .ok (.getfield 123, 3) := by decide +kernel
theorem d_Model_checkOperator_232 : decode b_Model_checkOperator 232 = .ok (.aload_n 0, 1) := by decide +kernel
theorem d_Model_checkOperator_233 : decode b_Model_checkOperator 233 = .ok (.getfield 126, 3) := by decide +kernel
theorem d_Model_checkOperator_236 : decode b_Model_checkOperator 236 = .ok (.iload_n 1, 1) := by decide +kernel
theorem d_Model_checkOperator_237 : decode b_Model_checkOperator 237 = .ok (.iaload, 1) := by decide +kernel
theorem d_Model_checkOperator_238 : decode b_Model_checkOperator 238 = .ok (.iaload, 1) := by decide +kernel
theorem d_Model_checkOperator_239 : decode b_Model_checkOperator 239 = .ok (.invokevirtual 381, 3) := by decide +kernel
theorem d_Model_checkOperator_242 : decode b_Model_checkOperator 242 = .ok (.goto 32, 3) := by decide +kernel
theorem d_Model_checkOperator_245 : decode b_Model_checkOperator 245 = .ok (.aload_n 0, 1) := by decide +kernel
theorem d_Model_checkOperator_246 : decode b_Model_checkOperator 246 = .ok (.aload_n 0, 1) := by decide +kernel
theorem d_Model_checkOperator_247 : decode b_Model_checkOperator 247 = .ok (.getfield 159, 3) := by decide +kernel
theorem d_Model_checkOperator_250 : decode b_Model_checkOperator 250 = .ok (.iload_n 3, 1) := by decide +kernel
theorem d_Model_checkOperator_251 : decode b_Model_checkOperator 251 = .ok (.iaload, 1) := by decide +kernel
theorem d_Model_checkOperator_252 : decode b_Model_checkOperator 252 = .ok (.invokevirtual 581, 3) := by decide +kernel
theorem d_Model_checkOperator_255 : decode b_Model_checkOperator 255 = .ok (.ifCond .ne 19, 3) := by decide +kernel
theorem d_Model_checkOperator_258 : decode b_Model_checkOperator 258 = .ok (.aload_n 0, 1) := by decide +kernel
theorem d_Model_checkOperator_259 : decode b_Model_checkOperator 259 = .ok (.iconst 5, 1) := by decide +kernel
theorem d_Model_checkOperator_260 : decode b_Model_checkOperator 260 = .ok (.aload_n 0, 1) := by decide +kernel
theorem d_Model_checkOperator_261 : decode b_Model_checkOperator 261 = .ok (.getfield 123, 3) := by decide +kernel
theorem d_Model_checkOperator_264 : decode b_Model_checkOperator 264 = .ok (.aload_n 0, 1) := by decide +kernel
theorem d_Model_checkOperator_265 : decode b_Model_checkOperator 265 = .ok (.getfield 129, 3) := by decide +kernel
theorem d_Model_checkOperator_268 : decode b_Model_checkOperator 268 = .ok (.iload_n 1, 1) := by decide +kernel
theorem d_Model_checkOperator_269 : decode b_Model_checkOperator 269 = .ok (.iaload, 1) := by decide +kernel
theorem d_Model_checkOperator_270 : decode b_Model_checkOperator 270 = .ok (.iaload, 1) := by decide +kernel
theorem d_Model_checkOperator_271 : decode b_Model_checkOperator 271 = .ok (.invokevirtual 381, 3) := by decide +kernel
theorem d_Model_checkOperator_274 : decode b_Model_checkOperator 274 = .ok (.iconst 0, 1) := by decide +kernel
theorem d_Model_checkOperator_275 : decode b_Model_checkOperator 275 = .ok (.ireturn, 1) := by decide +kernel
theorem d_Model_checkOperator_276 : decode b_Model_checkOperator 276 = .ok (.iload_n 2, 1) := by decide +kernel
theorem d_Model_checkOperator_277 : decode b_Model_checkOperator 277 = .ok (.ifCond .eq 22, 3) := by decide +kernel
theorem d_Model_checkOperator_280 : decode b_Model_checkOperator 280 = .ok (.aload_n 0, 1) := by decide +kernel
theorem d_Model_checkOperator_281 : decode b_Model_checkOperator 281 = .ok (.iconst 4, 1) := by decide +kernel
theorem d_Model_checkOperator_282 : decode b_Model_checkOperator 282 = .ok (.aload_n 0, 1) := by decide +kernel
theorem d_Model_checkOperator_283 : decode b_Model_checkOperator 283 = .ok (.getfield 123, 3) := by decide +kernel
theorem d_Model_checkOperator_286 : decode b_Model_checkOperator 286 = .ok (.aload_n 0, 1) := by decide +kernel
theorem d_Model_checkOperator_287 : decode b_Model_checkOperator 287 = .ok (.getfield 126, 3) := by decide +kernel
theorem d_Model_checkOperator_290 : decode b_Model_checkOperator 290 = .ok (.iload_n 1, 1) := by decide +kernel
theorem d_Model_checkOperator_291 : decode b_Model_checkOperator 291 = .ok (.iaload, 1) := by decide +kernel
theorem d_Model_checkOperator_292 : decode b_Model_checkOperator 292 = .ok (.iaload, 1) := by decide +kernel
theorem d_Model_checkOperator_293 : decode b_Model_checkOperator 293 = .ok (.invokevirtual 381, 3) := by decide +kernel
theorem d_Model_checkOperator_296 : decode b_Model_checkOperator 296 = .ok (.goto 23, 3) := by decide +kernel
theorem d_Model_checkOperator_299 : decode b_Model_checkOperator 299 = .ok (.iload_n 3, 1) := by decide +kernel
theorem d_Model_checkOperator_300 : decode b_Model_checkOperator 300 = .ok (.ifCond .eq 19, 3) := by decide +kernel
theorem d_Model_checkOperator_303 : decode b_Model_checkOperator 303 = .ok (.aload_n 0, 1) := by decide +kernel
theorem d_Model_checkOperator_304 : decode b_Model_checkOperator 304 = .ok (.iconst 4, 1) := by decide +kernel
theorem d_Model_checkOperator_305 : decode b_Model_checkOperator 305 = .ok (.aload_n 0, 1) := by decide +kernel
theorem d_Model_checkOperator_306 : decode b_Model_checkOperator 306 = .ok (.getfield 123, 3) := by decide +kernel
theorem d_Model_checkOperator_309 : decode b_Model_checkOperator 309 = .ok (.aload_n 0, 1) := by decide +kernel
theorem d_Model_checkOperator_310 : decode b_Model_checkOperator 310 = .ok (.getfield 129, 3) := by decide +kernel
theorem d_Model_checkOperator_313 : decode b_Model_checkOperator 313 = .ok (.iload_n 1, 1) := by decide +kernel
theorem d_Model_checkOperator_314 : decode b_Model_checkOperator 314 = .ok (.iaload, 1) := by decide +kernel
theorem d_Model_checkOperator_315 : decode b_Model_checkOperator 315 = .ok (.iaload, 1) := by decide +kernel
theorem d_Model_checkOperator_316 : decode b_Model_checkOperator 316 = .ok (.invokevirtual 381, 3) := by decide +kernel
theorem d_Model_checkOperator_319 : decode b_Model_checkOperator 319 = .ok (.iconst 0, 1) := by decide +kernel
theorem d_Model_checkOperator_320 : decode b_Model_checkOperator 320 = .ok (.ireturn, 1) := by decide +kernel
abbrev b_Model_checkThrough : ByteArray := prog_14_method_92_code
abbrev y_Model_checkThrough : MethodName := ⟨R_Model, "checkThrough", "(I)I"⟩
theorem co_Model_checkThrough : Cond.code y_Model_checkThrough b_Model_checkThrough 7 (some .int) ∈ lw_good := lg_in (tin_11 _ (List.mem_of_getElem? (i := 238) rfl)) rfl
abbrev w_Model_checkThrough : List Cond := Cond.code y_Model_checkThrough b_Model_checkThrough 7 (some .int) :: lw_good
theorem im_Model_checkThrough : Cond.instanceMethod y_Model_checkThrough ∈ lw_good := lg_right (i := 2637) (by decide +kernel) rfl
theorem se_Model_checkThrough : Cond.selects R_Model y_Model_checkThrough y_Model_checkThrough ∈ lw_good := lg_left (i := 186) (by decide +kernel) rfl
theorem d_Model_checkThrough_0 : decode b_Model_checkThrough 0 = .ok (.aload_n 0, 1) := by decide +kernel
theorem d_Model_checkThrough_1 : decode b_Model_checkThrough 1 = .ok (.getfield 150, 3) := by decide +kernel
theorem d_Model_checkThrough_4 : decode b_Model_checkThrough 4 = .ok (.aload_n 0, 1) := by decide +kernel
theorem d_Model_checkThrough_5 : decode b_Model_checkThrough 5 = .ok (.getfield 126, 3) := by decide +kernel
theorem d_Model_checkThrough_8 : decode b_Model_checkThrough 8 = .ok (.iload_n 1, 1) := by decide +kernel
theorem d_Model_checkThrough_9 : decode b_Model_checkThrough 9 = .ok (.iaload, 1) := by decide +kernel
theorem d_Model_checkThrough_10 : decode b_Model_checkThrough 10 = .ok (.iaload, 1) := by decide +kernel
theorem d_Model_checkThrough_11 : decode b_Model_checkThrough 11 = .ok (.istore_n 2, 1) := by decide +kernel
theorem d_Model_checkThrough_12 : decode b_Model_checkThrough 12 = .ok (.aload_n 0, 1) := by decide +kernel
theorem d_Model_checkThrough_13 : decode b_Model_checkThrough 13 = .ok (.getfield 120, 3) := by decide +kernel
theorem d_Model_checkThrough_16 : decode b_Model_checkThrough 16 = .ok (.iload_n 1, 1) := by decide +kernel
theorem d_Model_checkThrough_17 : decode b_Model_checkThrough 17 = .ok (.iaload, 1) := by decide +kernel
theorem d_Model_checkThrough_18 : decode b_Model_checkThrough 18 = .ok (.bipush 16, 2) := by decide +kernel
theorem d_Model_checkThrough_20 : decode b_Model_checkThrough 20 = .ok (.if_icmp .eq 7, 3) := by decide +kernel
theorem d_Model_checkThrough_23 : decode b_Model_checkThrough 23 = .ok (.iconst 1, 1) := by decide +kernel
theorem d_Model_checkThrough_24 : decode b_Model_checkThrough 24 = .ok (.goto 4, 3) := by decide +kernel
theorem d_Model_checkThrough_27 : decode b_Model_checkThrough 27 = .ok (.iconst 0, 1) := by decide +kernel
theorem d_Model_checkThrough_28 : decode b_Model_checkThrough 28 = .ok (.istore_n 3, 1) := by decide +kernel
theorem d_Model_checkThrough_29 : decode b_Model_checkThrough 29 = .ok (.iload_n 3, 1) := by decide +kernel
theorem d_Model_checkThrough_30 : decode b_Model_checkThrough 30 = .ok (.ifCond .eq 11, 3) := by decide +kernel
theorem d_Model_checkThrough_33 : decode b_Model_checkThrough 33 = .ok (.aload_n 0, 1) := by decide +kernel
theorem d_Model_checkThrough_34 : decode b_Model_checkThrough 34 = .ok (.iload_n 2, 1) := by decide +kernel
theorem d_Model_checkThrough_35 : decode b_Model_checkThrough 35 = .ok (.invokevirtual 756, 3) := by decide +kernel
theorem ml_Model_756 : Cond.methodLink R_Model 756 ⟨"PointerHouseModel", "isTitled", "(I)Z"⟩ ∈ lw_good := lg_right (i := 2639) (by decide +kernel) rfl
theorem d_Model_checkThrough_38 : decode b_Model_checkThrough 38 = .ok (.goto 25, 3) := by decide +kernel
theorem d_Model_checkThrough_41 : decode b_Model_checkThrough 41 = .ok (.aload_n 0, 1) := by decide +kernel
theorem d_Model_checkThrough_42 : decode b_Model_checkThrough 42 = .ok (.iload_n 2, 1) := by decide +kernel
theorem d_Model_checkThrough_43 : decode b_Model_checkThrough 43 = .ok (.invokevirtual 560, 3) := by decide +kernel
theorem d_Model_checkThrough_46 : decode b_Model_checkThrough 46 = .ok (.ifCond .eq 16, 3) := by decide +kernel
theorem d_Model_checkThrough_49 : decode b_Model_checkThrough 49 = .ok (.aload_n 0, 1) := by decide +kernel
theorem d_Model_checkThrough_50 : decode b_Model_checkThrough 50 = .ok (.getfield 165, 3) := by decide +kernel
theorem d_Model_checkThrough_53 : decode b_Model_checkThrough 53 = .ok (.iload_n 2, 1) := by decide +kernel
theorem d_Model_checkThrough_54 : decode b_Model_checkThrough 54 = .ok (.iaload, 1) := by decide +kernel
theorem d_Model_checkThrough_55 : decode b_Model_checkThrough 55 = .ok (.ifCond .ge 7, 3) := by decide +kernel
theorem d_Model_checkThrough_58 : decode b_Model_checkThrough 58 = .ok (.iconst 1, 1) := by decide +kernel
theorem d_Model_checkThrough_59 : decode b_Model_checkThrough 59 = .ok (.goto 4, 3) := by decide +kernel
theorem d_Model_checkThrough_62 : decode b_Model_checkThrough 62 = .ok (.iconst 0, 1) := by decide +kernel
theorem d_Model_checkThrough_63 : decode b_Model_checkThrough 63 = .ok (.istore 4, 2) := by decide +kernel
theorem d_Model_checkThrough_65 : decode b_Model_checkThrough 65 = .ok (.iload 4, 2) := by decide +kernel
theorem d_Model_checkThrough_67 : decode b_Model_checkThrough 67 = .ok (.ifCond .eq 36, 3) := by decide +kernel
theorem d_Model_checkThrough_70 : decode b_Model_checkThrough 70 = .ok (.aload_n 0, 1) := by decide +kernel
theorem d_Model_checkThrough_71 : decode b_Model_checkThrough 71 = .ok (.getfield 120, 3) := by decide +kernel
theorem d_Model_checkThrough_74 : decode b_Model_checkThrough 74 = .ok (.iload_n 1, 1) := by decide +kernel
theorem d_Model_checkThrough_75 : decode b_Model_checkThrough 75 = .ok (.iaload, 1) := by decide +kernel
theorem d_Model_checkThrough_76 : decode b_Model_checkThrough 76 = .ok (.bipush 17, 2) := by decide +kernel
theorem d_Model_checkThrough_78 : decode b_Model_checkThrough 78 = .ok (.if_icmp .ne 25, 3) := by decide +kernel
theorem d_Model_checkThrough_81 : decode b_Model_checkThrough 81 = .ok (.aload_n 0, 1) := by decide +kernel
theorem d_Model_checkThrough_82 : decode b_Model_checkThrough 82 = .ok (.getfield 17, 3) := by decide +kernel
theorem d_Model_checkThrough_85 : decode b_Model_checkThrough 85 = .ok (.aload_n 0, 1) := by decide +kernel
theorem d_Model_checkThrough_86 : decode b_Model_checkThrough 86 = .ok (.getfield 165, 3) := by decide +kernel
theorem d_Model_checkThrough_89 : decode b_Model_checkThrough 89 = .ok (.iload_n 2, 1) := by decide +kernel
theorem d_Model_checkThrough_90 : decode b_Model_checkThrough 90 = .ok (.iaload, 1) := by decide +kernel
theorem d_Model_checkThrough_91 : decode b_Model_checkThrough 91 = .ok (.iaload, 1) := by decide +kernel
theorem d_Model_checkThrough_92 : decode b_Model_checkThrough 92 = .ok (.iconst 1, 1) := by decide +kernel
theorem d_Model_checkThrough_93 : decode b_Model_checkThrough 93 = .ok (.if_icmp .ne 7, 3) := by decide +kernel
theorem d_Model_checkThrough_96 : decode b_Model_checkThrough 96 = .ok (.iconst 1, 1) := by decide +kernel
theorem d_Model_checkThrough_97 : decode b_Model_checkThrough 97 = .ok (.goto 4, 3) := by decide +kernel
theorem d_Model_checkThrough_100 : decode b_Model_checkThrough 100 = .ok (.iconst 0, 1) := by decide +kernel
theorem d_Model_checkThrough_101 : decode b_Model_checkThrough 101 = .ok (.istore 4, 2) := by decide +kernel
theorem d_Model_checkThrough_103 : decode b_Model_checkThrough 103 = .ok (.iload 4, 2) := by decide +kernel
theorem d_Model_checkThrough_105 : decode b_Model_checkThrough 105 = .ok (.ifCond .ne 22, 3) := by decide +kernel
theorem d_Model_checkThrough_108 : decode b_Model_checkThrough 108 = .ok (.aload_n 0, 1) := by decide +kernel
theorem d_Model_checkThrough_109 : decode b_Model_checkThrough 109 = .ok (.iconst 4, 1) := by decide +kernel
theorem d_Model_checkThrough_110 : decode b_Model_checkThrough 110 = .ok (.aload_n 0, 1) := by decide +kernel
theorem d_Model_checkThrough_111 : decode b_Model_checkThrough 111 = .ok (.getfield 123, 3) := by decide +kernel
theorem d_Model_checkThrough_114 : decode b_Model_checkThrough 114 = .ok (.aload_n 0, 1) := by decide +kernel
theorem d_Model_checkThrough_115 : decode b_Model_checkThrough 115 = .ok (.getfield 126, 3) := by decide +kernel
theorem d_Model_checkThrough_118 : decode b_Model_checkThrough 118 = .ok (.iload_n 1, 1) := by decide +kernel
theorem d_Model_checkThrough_119 : decode b_Model_checkThrough 119 = .ok (.iaload, 1) := by decide +kernel
theorem d_Model_checkThrough_120 : decode b_Model_checkThrough 120 = .ok (.iaload, 1) := by decide +kernel
theorem d_Model_checkThrough_121 : decode b_Model_checkThrough 121 = .ok (.invokevirtual 381, 3) := by decide +kernel
theorem d_Model_checkThrough_124 : decode b_Model_checkThrough 124 = .ok (.goto 32, 3) := by decide +kernel
theorem d_Model_checkThrough_127 : decode b_Model_checkThrough 127 = .ok (.aload_n 0, 1) := by decide +kernel
theorem d_Model_checkThrough_128 : decode b_Model_checkThrough 128 = .ok (.aload_n 0, 1) := by decide +kernel
theorem d_Model_checkThrough_129 : decode b_Model_checkThrough 129 = .ok (.getfield 159, 3) := by decide +kernel
theorem d_Model_checkThrough_132 : decode b_Model_checkThrough 132 = .ok (.iload_n 2, 1) := by decide +kernel
theorem d_Model_checkThrough_133 : decode b_Model_checkThrough 133 = .ok (.iaload, 1) := by decide +kernel
theorem d_Model_checkThrough_134 : decode b_Model_checkThrough 134 = .ok (.invokevirtual 581, 3) := by decide +kernel
theorem d_Model_checkThrough_137 : decode b_Model_checkThrough 137 = .ok (.ifCond .ne 19, 3) := by decide +kernel
theorem d_Model_checkThrough_140 : decode b_Model_checkThrough 140 = .ok (.aload_n 0, 1) := by decide +kernel
theorem d_Model_checkThrough_141 : decode b_Model_checkThrough 141 = .ok (.iconst 5, 1) := by decide +kernel
theorem d_Model_checkThrough_142 : decode b_Model_checkThrough 142 = .ok (.aload_n 0, 1) := by decide +kernel
theorem d_Model_checkThrough_143 : decode b_Model_checkThrough 143 = .ok (.getfield 123, 3) := by decide +kernel
theorem d_Model_checkThrough_146 : decode b_Model_checkThrough 146 = .ok (.aload_n 0, 1) := by decide +kernel
theorem d_Model_checkThrough_147 : decode b_Model_checkThrough 147 = .ok (.getfield 126, 3) := by decide +kernel
theorem d_Model_checkThrough_150 : decode b_Model_checkThrough 150 = .ok (.iload_n 1, 1) := by decide +kernel
theorem d_Model_checkThrough_151 : decode b_Model_checkThrough 151 = .ok (.iaload, 1) := by decide +kernel
theorem d_Model_checkThrough_152 : decode b_Model_checkThrough 152 = .ok (.iaload, 1) := by decide +kernel
theorem d_Model_checkThrough_153 : decode b_Model_checkThrough 153 = .ok (.invokevirtual 381, 3) := by decide +kernel
theorem d_Model_checkThrough_156 : decode b_Model_checkThrough 156 = .ok (.aload_n 0, 1) := by decide +kernel
theorem d_Model_checkThrough_157 : decode b_Model_checkThrough 157 = .ok (.invokevirtual 385, 3) := by decide +kernel
theorem d_Model_checkThrough_160 : decode b_Model_checkThrough 160 = .ok (.ifCond .eq 5, 3) := by decide +kernel
theorem d_Model_checkThrough_163 : decode b_Model_checkThrough 163 = .ok (.iconst 0, 1) := by decide +kernel
theorem d_Model_checkThrough_164 : decode b_Model_checkThrough 164 = .ok (.ireturn, 1) := by decide +kernel
theorem d_Model_checkThrough_165 : decode b_Model_checkThrough 165 = .ok (.aload_n 0, 1) := by decide +kernel
theorem d_Model_checkThrough_166 : decode b_Model_checkThrough 166 = .ok (.dup, 1) := by decide +kernel
theorem d_Model_checkThrough_167 : decode b_Model_checkThrough 167 = .ok (.getfield 741, 3) := by decide +kernel
theorem d_Model_checkThrough_170 : decode b_Model_checkThrough 170 = .ok (.aload_n 0, 1) := by decide +kernel
theorem d_Model_checkThrough_171 : decode b_Model_checkThrough 171 = .ok (.getfield 156, 3) := by decide +kernel
theorem d_Model_checkThrough_174 : decode b_Model_checkThrough 174 = .ok (.iload_n 2, 1) := by decide +kernel
theorem d_Model_checkThrough_175 : decode b_Model_checkThrough 175 = .ok (.iaload, 1) := by decide +kernel
theorem d_Model_checkThrough_176 : decode b_Model_checkThrough 176 = .ok (.iconst 2, 1) := by decide +kernel
theorem d_Model_checkThrough_177 : decode b_Model_checkThrough 177 = .ok (.if_icmp .ne 7, 3) := by decide +kernel
theorem d_Model_checkThrough_180 : decode b_Model_checkThrough 180 = .ok (.iconst 1, 1) := by decide +kernel
theorem d_Model_checkThrough_181 : decode b_Model_checkThrough 181 = .ok (.goto 4, 3) := by decide +kernel
theorem d_Model_checkThrough_184 : decode b_Model_checkThrough 184 = .ok (.iconst 0, 1) := by decide +kernel
theorem d_Model_checkThrough_185 : decode b_Model_checkThrough 185 = .ok (.iadd, 1) := by decide +kernel
theorem d_Model_checkThrough_186 : decode b_Model_checkThrough 186 = .ok (.putfield 741, 3) := by decide +kernel
theorem d_Model_checkThrough_189 : decode b_Model_checkThrough 189 = .ok (.iload_n 3, 1) := by decide +kernel
theorem d_Model_checkThrough_190 : decode b_Model_checkThrough 190 = .ok (.ifCond .ne 10, 3) := by decide +kernel
theorem d_Model_checkThrough_193 : decode b_Model_checkThrough 193 = .ok (.aload_n 0, 1) := by decide +kernel
theorem d_Model_checkThrough_194 : decode b_Model_checkThrough 194 = .ok (.getfield 162, 3) := by decide +kernel
theorem d_Model_checkThrough_197 : decode b_Model_checkThrough 197 = .ok (.iload_n 2, 1) := by decide +kernel
theorem d_Model_checkThrough_198 : decode b_Model_checkThrough 198 = .ok (.iaload, 1) := by decide +kernel
theorem d_Model_checkThrough_199 : decode b_Model_checkThrough 199 = .ok (.ireturn, 1) := by decide +kernel
theorem d_Model_checkThrough_200 : decode b_Model_checkThrough 200 = .ok (.aload_n 0, 1) := by decide +kernel
theorem d_Model_checkThrough_201 : decode b_Model_checkThrough 201 = .ok (.getfield 165, 3) := by decide +kernel
theorem d_Model_checkThrough_204 : decode b_Model_checkThrough 204 = .ok (.iload_n 2, 1) := by decide +kernel
theorem d_Model_checkThrough_205 : decode b_Model_checkThrough 205 = .ok (.iaload, 1) := by decide +kernel
theorem d_Model_checkThrough_206 : decode b_Model_checkThrough 206 = .ok (.istore 5, 2) := by decide +kernel
theorem d_Model_checkThrough_208 : decode b_Model_checkThrough 208 = .ok (.aload_n 0, 1) := by decide +kernel
theorem d_Model_checkThrough_209 : decode b_Model_checkThrough 209 = .ok (.iload 5, 2) := by decide +kernel
theorem d_Model_checkThrough_211 : decode b_Model_checkThrough 211 = .ok (.aload_n 0, 1) := by decide +kernel
theorem d_Model_checkThrough_212 : decode b_Model_checkThrough 212 = .ok (.getfield 138, 3) := by decide +kernel
theorem d_Model_checkThrough_215 : decode b_Model_checkThrough 215 = .ok (.iload_n 1, 1) := by decide +kernel
theorem d_Model_checkThrough_216 : decode b_Model_checkThrough 216 = .ok (.laload, 1) := by decide +kernel
theorem d_Model_checkThrough_217 : decode b_Model_checkThrough 217 = .ok (.invokevirtual 612, 3) := by decide +kernel
theorem d_Model_checkThrough_220 : decode b_Model_checkThrough 220 = .ok (.istore 6, 2) := by decide +kernel
theorem d_Model_checkThrough_222 : decode b_Model_checkThrough 222 = .ok (.iload 6, 2) := by decide +kernel
theorem d_Model_checkThrough_224 : decode b_Model_checkThrough 224 = .ok (.ifCond .ge 14, 3) := by decide +kernel
theorem d_Model_checkThrough_227 : decode b_Model_checkThrough 227 = .ok (.aload_n 0, 1) := by decide +kernel
theorem d_Model_checkThrough_228 : decode b_Model_checkThrough 228 = .ok (.iconst 3, 1) := by decide +kernel
theorem d_Model_checkThrough_229 : decode b_Model_checkThrough 229 = .ok (.aload_n 0, 1) := by decide +kernel
theorem d_Model_checkThrough_230 : decode b_Model_checkThrough 230 = .ok (.getfield 141, 3) := by decide +kernel
theorem d_Model_checkThrough_233 : decode b_Model_checkThrough 233 = .ok (.iload_n 1, 1) := by decide +kernel
theorem d_Model_checkThrough_234 : decode b_Model_checkThrough 234 = .ok (.iaload, 1) := by decide +kernel
theorem d_Model_checkThrough_235 : decode b_Model_checkThrough 235 = .ok (.invokevirtual 381, 3) := by decide +kernel
theorem d_Model_checkThrough_238 : decode b_Model_checkThrough 238 = .ok (.aload_n 0, 1) := by decide +kernel
theorem d_Model_checkThrough_239 : decode b_Model_checkThrough 239 = .ok (.invokevirtual 385, 3) := by decide +kernel
theorem d_Model_checkThrough_242 : decode b_Model_checkThrough 242 = .ok (.ifCond .eq 5, 3) := by decide +kernel
theorem d_Model_checkThrough_245 : decode b_Model_checkThrough 245 = .ok (.iconst 0, 1) := by decide +kernel
theorem d_Model_checkThrough_246 : decode b_Model_checkThrough 246 = .ok (.ireturn, 1) := by decide +kernel
theorem d_Model_checkThrough_247 : decode b_Model_checkThrough 247 = .ok (.aload_n 0, 1) := by decide +kernel
theorem d_Model_checkThrough_248 : decode b_Model_checkThrough 248 = .ok (.getfield 153, 3) := by decide +kernel
theorem d_Model_checkThrough_251 : decode b_Model_checkThrough 251 = .ok (.iload_n 1, 1) := by decide +kernel
theorem d_Model_checkThrough_252 : decode b_Model_checkThrough 252 = .ok (.iload 6, 2) := by decide +kernel
theorem d_Model_checkThrough_254 : decode b_Model_checkThrough 254 = .ok (.iastore, 1) := by decide +kernel
theorem d_Model_checkThrough_255 : decode b_Model_checkThrough 255 = .ok (.aload_n 0, 1) := by decide +kernel
theorem d_Model_checkThrough_256 : decode b_Model_checkThrough 256 = .ok (.getfield 120, 3) := by decide +kernel
theorem d_Model_checkThrough_259 : decode b_Model_checkThrough 259 = .ok (.iload_n 1, 1) := by decide +kernel
theorem d_Model_checkThrough_260 : decode b_Model_checkThrough 260 = .ok (.iaload, 1) := by decide +kernel
theorem d_Model_checkThrough_261 : decode b_Model_checkThrough 261 = .ok (.bipush 17, 2) := by decide +kernel
theorem d_Model_checkThrough_263 : decode b_Model_checkThrough 263 = .ok (.if_icmp .ne 5, 3) := by decide +kernel
theorem d_Model_checkThrough_266 : decode b_Model_checkThrough 266 = .ok (.iconst 0, 1) := by decide +kernel
theorem d_Model_checkThrough_267 : decode b_Model_checkThrough 267 = .ok (.ireturn, 1) := by decide +kernel
theorem d_Model_checkThrough_268 : decode b_Model_checkThrough 268 = .ok (.aload_n 0, 1) := by decide +kernel
theorem d_Model_checkThrough_269 : decode b_Model_checkThrough 269 = .ok (.dup, 1) := by decide +kernel
theorem d_Model_checkThrough_270 : decode b_Model_checkThrough 270 = .ok (.getfield 698, 3) := by decide +kernel
theorem d_Model_checkThrough_273 : decode b_Model_checkThrough 273 = .ok (.aload_n 0, 1) := by decide +kernel
theorem d_Model_checkThrough_274 : decode b_Model_checkThrough 274 = .ok (.getfield 17, 3) := by decide +kernel
theorem d_Model_checkThrough_277 : decode b_Model_checkThrough 277 = .ok (.iload 5, 2) := by decide +kernel
theorem d_Model_checkThrough_279 : decode b_Model_checkThrough 279 = .ok (.iaload, 1) := by decide +kernel
theorem d_Model_checkThrough_280 : decode b_Model_checkThrough 280 = .ok (.iconst 1, 1) := by decide +kernel
theorem d_Model_checkThrough_281 : decode b_Model_checkThrough 281 = .ok (.if_icmp .ne 7, 3) := by decide +kernel
theorem d_Model_checkThrough_284 : decode b_Model_checkThrough 284 = .ok (.iconst 1, 1) := by decide +kernel
theorem d_Model_checkThrough_285 : decode b_Model_checkThrough 285 = .ok (.goto 4, 3) := by decide +kernel
theorem d_Model_checkThrough_288 : decode b_Model_checkThrough 288 = .ok (.iconst 0, 1) := by decide +kernel
theorem d_Model_checkThrough_289 : decode b_Model_checkThrough 289 = .ok (.iadd, 1) := by decide +kernel
theorem d_Model_checkThrough_290 : decode b_Model_checkThrough 290 = .ok (.putfield 698, 3) := by decide +kernel
theorem d_Model_checkThrough_293 : decode b_Model_checkThrough 293 = .ok (.aload_n 0, 1) := by decide +kernel
theorem d_Model_checkThrough_294 : decode b_Model_checkThrough 294 = .ok (.aload_n 0, 1) := by decide +kernel
theorem d_Model_checkThrough_295 : decode b_Model_checkThrough 295 = .ok (.getfield 51, 3) := by decide +kernel
theorem d_Model_checkThrough_298 : decode b_Model_checkThrough 298 = .ok (.aload_n 0, 1) := by decide +kernel
theorem d_Model_checkThrough_299 : decode b_Model_checkThrough 299 = .ok (.getfield 36, 3) := by decide +kernel
theorem d_Model_checkThrough_302 : decode b_Model_checkThrough 302 = .ok (.iload 5, 2) := by decide +kernel
theorem d_Model_checkThrough_304 : decode b_Model_checkThrough 304 = .ok (.iaload, 1) := by decide +kernel
theorem d_Model_checkThrough_305 : decode b_Model_checkThrough 305 = .ok (.iload 6, 2) := by decide +kernel
theorem d_Model_checkThrough_307 : decode b_Model_checkThrough 307 = .ok (.iadd, 1) := by decide +kernel
theorem d_Model_checkThrough_308 : decode b_Model_checkThrough 308 = .ok (.iaload, 1) := by decide +kernel
theorem d_Model_checkThrough_309 : decode b_Model_checkThrough 309 = .ok (.aload_n 0, 1) := by decide +kernel
theorem d_Model_checkThrough_310 : decode b_Model_checkThrough 310 = .ok (.getfield 168, 3) := by decide +kernel
theorem d_Model_checkThrough_313 : decode b_Model_checkThrough 313 = .ok (.iload_n 2, 1) := by decide +kernel
theorem d_Model_checkThrough_314 : decode b_Model_checkThrough 314 = .ok (.iaload, 1) := by decide +kernel
theorem d_Model_checkThrough_315 : decode b_Model_checkThrough 315 = .ok (.invokevirtual 553, 3) := by decide +kernel
theorem d_Model_checkThrough_318 : decode b_Model_checkThrough 318 = .ok (.ireturn, 1) := by decide +kernel
abbrev b_Model_checkIndex : ByteArray := prog_14_method_93_code
abbrev y_Model_checkIndex : MethodName := ⟨R_Model, "checkIndex", "(I)I"⟩
theorem co_Model_checkIndex : Cond.code y_Model_checkIndex b_Model_checkIndex 4 (some .int) ∈ lw_good := lg_in (tin_11 _ (List.mem_of_getElem? (i := 234) rfl)) rfl
abbrev w_Model_checkIndex : List Cond := Cond.code y_Model_checkIndex b_Model_checkIndex 4 (some .int) :: lw_good
theorem im_Model_checkIndex : Cond.instanceMethod y_Model_checkIndex ∈ lw_good := lg_right (i := 2633) (by decide +kernel) rfl
theorem se_Model_checkIndex : Cond.selects R_Model y_Model_checkIndex y_Model_checkIndex ∈ lw_good := lg_left (i := 185) (by decide +kernel) rfl
theorem d_Model_checkIndex_0 : decode b_Model_checkIndex 0 = .ok (.aload_n 0, 1) := by decide +kernel
theorem d_Model_checkIndex_1 : decode b_Model_checkIndex 1 = .ok (.getfield 150, 3) := by decide +kernel
theorem d_Model_checkIndex_4 : decode b_Model_checkIndex 4 = .ok (.aload_n 0, 1) := by decide +kernel
theorem d_Model_checkIndex_5 : decode b_Model_checkIndex 5 = .ok (.getfield 126, 3) := by decide +kernel
theorem d_Model_checkIndex_8 : decode b_Model_checkIndex 8 = .ok (.iload_n 1, 1) := by decide +kernel
theorem d_Model_checkIndex_9 : decode b_Model_checkIndex 9 = .ok (.iaload, 1) := by decide +kernel
theorem d_Model_checkIndex_10 : decode b_Model_checkIndex 10 = .ok (.iaload, 1) := by decide +kernel
theorem d_Model_checkIndex_11 : decode b_Model_checkIndex 11 = .ok (.istore_n 2, 1) := by decide +kernel
theorem d_Model_checkIndex_12 : decode b_Model_checkIndex 12 = .ok (.aload_n 0, 1) := by decide +kernel
theorem d_Model_checkIndex_13 : decode b_Model_checkIndex 13 = .ok (.aload_n 0, 1) := by decide +kernel
theorem d_Model_checkIndex_14 : decode b_Model_checkIndex 14 = .ok (.getfield 129, 3) := by decide +kernel
theorem d_Model_checkIndex_17 : decode b_Model_checkIndex 17 = .ok (.iload_n 1, 1) := by decide +kernel
theorem d_Model_checkIndex_18 : decode b_Model_checkIndex 18 = .ok (.iaload, 1) := by decide +kernel
theorem d_Model_checkIndex_19 : decode b_Model_checkIndex 19 = .ok (.invokevirtual 652, 3) := by decide +kernel
theorem d_Model_checkIndex_22 : decode b_Model_checkIndex 22 = .ok (.istore_n 3, 1) := by decide +kernel
theorem d_Model_checkIndex_23 : decode b_Model_checkIndex 23 = .ok (.aload_n 0, 1) := by decide +kernel
theorem d_Model_checkIndex_24 : decode b_Model_checkIndex 24 = .ok (.invokevirtual 385, 3) := by decide +kernel
theorem d_Model_checkIndex_27 : decode b_Model_checkIndex 27 = .ok (.ifCond .eq 5, 3) := by decide +kernel
theorem d_Model_checkIndex_30 : decode b_Model_checkIndex 30 = .ok (.iconst 0, 1) := by decide +kernel
theorem d_Model_checkIndex_31 : decode b_Model_checkIndex 31 = .ok (.ireturn, 1) := by decide +kernel
theorem d_Model_checkIndex_32 : decode b_Model_checkIndex 32 = .ok (.aload_n 0, 1) := by decide +kernel
theorem d_Model_checkIndex_33 : decode b_Model_checkIndex 33 = .ok (.iload_n 2, 1) := by decide +kernel
theorem d_Model_checkIndex_34 : decode b_Model_checkIndex 34 = .ok (.invokevirtual 744, 3) := by decide +kernel
theorem d_Model_checkIndex_37 : decode b_Model_checkIndex 37 = .ok (.ifCond .ne 22, 3) := by decide +kernel
theorem d_Model_checkIndex_40 : decode b_Model_checkIndex 40 = .ok (.aload_n 0, 1) := by decide +kernel
theorem d_Model_checkIndex_41 : decode b_Model_checkIndex 41 = .ok (.iconst 4, 1) := by decide +kernel
theorem d_Model_checkIndex_42 : decode b_Model_checkIndex 42 = .ok (.aload_n 0, 1) := by decide +kernel
theorem d_Model_checkIndex_43 : decode b_Model_checkIndex 43 = .ok (.getfield 123, 3) := by decide +kernel
theorem d_Model_checkIndex_46 : decode b_Model_checkIndex 46 = .ok (.aload_n 0, 1) := by decide +kernel
theorem d_Model_checkIndex_47 : decode b_Model_checkIndex 47 = .ok (.getfield 126, 3) := by decide +kernel
theorem d_Model_checkIndex_50 : decode b_Model_checkIndex 50 = .ok (.iload_n 1, 1) := by decide +kernel
theorem d_Model_checkIndex_51 : decode b_Model_checkIndex 51 = .ok (.iaload, 1) := by decide +kernel
theorem d_Model_checkIndex_52 : decode b_Model_checkIndex 52 = .ok (.iaload, 1) := by decide +kernel
theorem d_Model_checkIndex_53 : decode b_Model_checkIndex 53 = .ok (.invokevirtual 381, 3) := by decide +kernel
theorem d_Model_checkIndex_56 : decode b_Model_checkIndex 56 = .ok (.goto 55, 3) := by decide +kernel
theorem d_Model_checkIndex_59 : decode b_Model_checkIndex 59 = .ok (.aload_n 0, 1) := by decide +kernel
theorem d_Model_checkIndex_60 : decode b_Model_checkIndex 60 = .ok (.aload_n 0, 1) := by decide +kernel
theorem d_Model_checkIndex_61 : decode b_Model_checkIndex 61 = .ok (.getfield 159, 3) := by decide +kernel
theorem d_Model_checkIndex_64 : decode b_Model_checkIndex 64 = .ok (.iload_n 2, 1) := by decide +kernel
theorem d_Model_checkIndex_65 : decode b_Model_checkIndex 65 = .ok (.iaload, 1) := by decide +kernel
theorem d_Model_checkIndex_66 : decode b_Model_checkIndex 66 = .ok (.invokevirtual 581, 3) := by decide +kernel
theorem d_Model_checkIndex_69 : decode b_Model_checkIndex 69 = .ok (.ifCond .ne 22, 3) := by decide +kernel
theorem d_Model_checkIndex_72 : decode b_Model_checkIndex 72 = .ok (.aload_n 0, 1) := by decide +kernel
theorem d_Model_checkIndex_73 : decode b_Model_checkIndex 73 = .ok (.iconst 5, 1) := by decide +kernel
theorem d_Model_checkIndex_74 : decode b_Model_checkIndex 74 = .ok (.aload_n 0, 1) := by decide +kernel
theorem d_Model_checkIndex_75 : decode b_Model_checkIndex 75 = .ok (.getfield 123, 3) := by decide +kernel
theorem d_Model_checkIndex_78 : decode b_Model_checkIndex 78 = .ok (.aload_n 0, 1) := by decide +kernel
theorem d_Model_checkIndex_79 : decode b_Model_checkIndex 79 = .ok (.getfield 126, 3) := by decide +kernel
theorem d_Model_checkIndex_82 : decode b_Model_checkIndex 82 = .ok (.iload_n 1, 1) := by decide +kernel
theorem d_Model_checkIndex_83 : decode b_Model_checkIndex 83 = .ok (.iaload, 1) := by decide +kernel
theorem d_Model_checkIndex_84 : decode b_Model_checkIndex 84 = .ok (.iaload, 1) := by decide +kernel
theorem d_Model_checkIndex_85 : decode b_Model_checkIndex 85 = .ok (.invokevirtual 381, 3) := by decide +kernel
theorem d_Model_checkIndex_88 : decode b_Model_checkIndex 88 = .ok (.goto 23, 3) := by decide +kernel
theorem d_Model_checkIndex_91 : decode b_Model_checkIndex 91 = .ok (.iload_n 3, 1) := by decide +kernel
theorem d_Model_checkIndex_92 : decode b_Model_checkIndex 92 = .ok (.ifCond .eq 19, 3) := by decide +kernel
theorem d_Model_checkIndex_95 : decode b_Model_checkIndex 95 = .ok (.aload_n 0, 1) := by decide +kernel
theorem d_Model_checkIndex_96 : decode b_Model_checkIndex 96 = .ok (.iconst 4, 1) := by decide +kernel
theorem d_Model_checkIndex_97 : decode b_Model_checkIndex 97 = .ok (.aload_n 0, 1) := by decide +kernel
theorem d_Model_checkIndex_98 : decode b_Model_checkIndex 98 = .ok (.getfield 123, 3) := by decide +kernel
theorem d_Model_checkIndex_101 : decode b_Model_checkIndex 101 = .ok (.aload_n 0, 1) := by decide +kernel
theorem d_Model_checkIndex_102 : decode b_Model_checkIndex 102 = .ok (.getfield 129, 3) := by decide +kernel
theorem d_Model_checkIndex_105 : decode b_Model_checkIndex 105 = .ok (.iload_n 1, 1) := by decide +kernel
theorem d_Model_checkIndex_106 : decode b_Model_checkIndex 106 = .ok (.iaload, 1) := by decide +kernel
theorem d_Model_checkIndex_107 : decode b_Model_checkIndex 107 = .ok (.iaload, 1) := by decide +kernel
theorem d_Model_checkIndex_108 : decode b_Model_checkIndex 108 = .ok (.invokevirtual 381, 3) := by decide +kernel
theorem d_Model_checkIndex_111 : decode b_Model_checkIndex 111 = .ok (.aload_n 0, 1) := by decide +kernel
theorem d_Model_checkIndex_112 : decode b_Model_checkIndex 112 = .ok (.invokevirtual 385, 3) := by decide +kernel
theorem d_Model_checkIndex_115 : decode b_Model_checkIndex 115 = .ok (.ifCond .eq 5, 3) := by decide +kernel
theorem d_Model_checkIndex_118 : decode b_Model_checkIndex 118 = .ok (.iconst 0, 1) := by decide +kernel
theorem d_Model_checkIndex_119 : decode b_Model_checkIndex 119 = .ok (.ireturn, 1) := by decide +kernel
theorem d_Model_checkIndex_120 : decode b_Model_checkIndex 120 = .ok (.aload_n 0, 1) := by decide +kernel
theorem d_Model_checkIndex_121 : decode b_Model_checkIndex 121 = .ok (.dup, 1) := by decide +kernel
theorem d_Model_checkIndex_122 : decode b_Model_checkIndex 122 = .ok (.getfield 759, 3) := by decide +kernel
theorem fl_Model_759 : Cond.fieldLink R_Model 759 "PointerHouseModel" "bounds" "I" ∈ lw_good := lg_right (i := 1908) (by decide +kernel) rfl
theorem d_Model_checkIndex_125 : decode b_Model_checkIndex 125 = .ok (.iconst 1, 1) := by decide +kernel
theorem d_Model_checkIndex_126 : decode b_Model_checkIndex 126 = .ok (.iadd, 1) := by decide +kernel
theorem d_Model_checkIndex_127 : decode b_Model_checkIndex 127 = .ok (.putfield 759, 3) := by decide +kernel
theorem d_Model_checkIndex_130 : decode b_Model_checkIndex 130 = .ok (.aload_n 0, 1) := by decide +kernel
theorem d_Model_checkIndex_131 : decode b_Model_checkIndex 131 = .ok (.getfield 162, 3) := by decide +kernel
theorem d_Model_checkIndex_134 : decode b_Model_checkIndex 134 = .ok (.iload_n 2, 1) := by decide +kernel
theorem d_Model_checkIndex_135 : decode b_Model_checkIndex 135 = .ok (.iaload, 1) := by decide +kernel
theorem d_Model_checkIndex_136 : decode b_Model_checkIndex 136 = .ok (.ireturn, 1) := by decide +kernel
section GV
variable {p : Program} {l : Launch} {e : Env} {R : Room} {s : State} {m : MethodId} {args : Array Value} {below : List Frame} {meth : Method} {c : Code} {H : Heap} {locs : List Loc} {cells slots : Nat} {Q : State → Prop}
variable {cc : ByteArray} {pc : Nat} {ls : Array Slot} {rest st0 : List Value} {dC : Nat → ClassId} {dI : Nat → Nat → Nat} {A : Nat → Prop} {ad ea ev : Nat → Nat} {km : Nat → ClassId} {T T' : gSt} {H0 : Heap}
theorem rd_Model_637 (hx : p.tables.exec = Jvm.exec) (hb : c.code = cc) (hT : ∀ w ∈ lw_good, w.before args s = true) (hown : s.vm.findClass R_Model = some m.cls) (hK : va_K (dC, dI) cls_all (gT LM km) s) (hP : va_P (dC, dI) cls_all (gW LM ad km T) H) (hdg : decode cc pc = .ok (.getfield 637, 3)) (kk : W p l e R s m args below meth c H locs cells slots Q (F0 m (pc + 3) ls (.int (T.1 86 0) :: rest))) : W p l e R s m args below meth c H locs cells slots Q (F0 m pc ls (.ref (ad 0) :: rest)) := gw_get hx hb hT i_Model hown hK hP 0 86 86 (Nat.le_of_ble_eq_true rfl) rfl rfl (Nat.le_of_ble_eq_true rfl) rfl (gv_i rfl) (hT _ fl_Model_637) (fun _ h9 => h9) hdg kk
theorem rd_Model_634 (hx : p.tables.exec = Jvm.exec) (hb : c.code = cc) (hT : ∀ w ∈ lw_good, w.before args s = true) (hown : s.vm.findClass R_Model = some m.cls) (hK : va_K (dC, dI) cls_all (gT LM km) s) (hP : va_P (dC, dI) cls_all (gW LM ad km T) H) (hdg : decode cc pc = .ok (.getfield 634, 3)) (kk : W p l e R s m args below meth c H locs cells slots Q (F0 m (pc + 3) ls (.int (T.1 84 0) :: rest))) : W p l e R s m args below meth c H locs cells slots Q (F0 m pc ls (.ref (ad 0) :: rest)) := gw_get hx hb hT i_Model hown hK hP 0 84 84 (Nat.le_of_ble_eq_true rfl) rfl rfl (Nat.le_of_ble_eq_true rfl) rfl (gv_i rfl) (hT _ fl_Model_634) (fun _ h9 => h9) hdg kk
theorem rd_Model_189 (hx : p.tables.exec = Jvm.exec) (hb : c.code = cc) (hT : ∀ w ∈ lw_good, w.before args s = true) (hown : s.vm.findClass R_Model = some m.cls) (hK : va_K (dC, dI) cls_all (gT LM km) s) (hP : va_P (dC, dI) cls_all (gW LM ad km T) H) (hdg : decode cc pc = .ok (.getfield 189, 3)) (kk : W p l e R s m args below meth c H locs cells slots Q (F0 m (pc + 3) ls (.ref (ad 59) :: rest))) : W p l e R s m args below meth c H locs cells slots Q (F0 m pc ls (.ref (ad 0) :: rest)) := gw_get hx hb hT i_Model hown hK hP 0 85 85 (Nat.le_of_ble_eq_true rfl) rfl rfl (Nat.le_of_ble_eq_true rfl) rfl (gv_a rfl) (hT _ fl_Model_189) (fun _ h9 => h9) hdg kk
theorem laM_58 (hx : p.tables.exec = Jvm.exec) (hb : c.code = cc) (hK : va_K (dC, dI) cls_all (gT LM km) s) (hP : va_P (dC, dI) cls_all (gW LM ad km T) H) {x : Int32} (hin : inb x 40) (hdg : decode cc pc = .ok (.iaload, 1)) (kk : W p l e R s m args below meth c H locs cells slots Q (F0 m (pc + 1) ls (.int (T.1 85 x.toNatClampNeg) :: rest))) : W p l e R s m args below meth c H locs cells slots Q (F0 m pc ls (.int x :: .ref (ad 59) :: rest)) := gw_iald hx hb hK hP 58 85 40 59 (Nat.le_of_ble_eq_true rfl) rfl rfl rfl rfl rfl hin hdg kk
theorem saM_58 (hx : p.tables.exec = Jvm.exec) (hb : c.code = cc) (hK : va_K (dC, dI) cls_all (gT LM km) s) (hP : va_P (dC, dI) cls_all (gW LM ad km T) H) (hD : va_D A (gW LM ad km T)) (hS : va_S A H0 H locs) {x : Int32} {v : Int32} (hin : inb x 40) (hdg : decode cc pc = .ok (.iastore, 1)) (kk : ∀ (T1 : gSt), T1 = sI T 85 x.toNatClampNeg v → ∀ (H1 : Heap) (locs1 : List Loc), va_P (dC, dI) cls_all (gW LM ad km T1) H1 → va_D A (gW LM ad km T1) → va_S A H0 H1 locs1 → W p l e R s m args below meth c H1 locs1 cells slots Q (F0 m (pc + 1) ls rest)) : W p l e R s m args below meth c H locs cells slots Q (F0 m pc ls (.int v :: .int x :: .ref (ad 59) :: rest)) := gw_iast okM hx hb hK hP hD hS 58 85 40 59 (Nat.le_of_ble_eq_true rfl) rfl rfl rfl rfl rfl hin hdg kk
theorem rd_Model_640 (hx : p.tables.exec = Jvm.exec) (hb : c.code = cc) (hT : ∀ w ∈ lw_good, w.before args s = true) (hown : s.vm.findClass R_Model = some m.cls) (hK : va_K (dC, dI) cls_all (gT LM km) s) (hP : va_P (dC, dI) cls_all (gW LM ad km T) H) (hdg : decode cc pc = .ok (.getfield 640, 3)) (kk : W p l e R s m args below meth c H locs cells slots Q (F0 m (pc + 3) ls (.int (T.1 87 0) :: rest))) : W p l e R s m args below meth c H locs cells slots Q (F0 m pc ls (.ref (ad 0) :: rest)) := gw_get hx hb hT i_Model hown hK hP 0 87 87 (Nat.le_of_ble_eq_true rfl) rfl rfl (Nat.le_of_ble_eq_true rfl) rfl (gv_i rfl) (hT _ fl_Model_640) (fun _ h9 => h9) hdg kk
theorem rd_Model_717 (hx : p.tables.exec = Jvm.exec) (hb : c.code = cc) (hT : ∀ w ∈ lw_good, w.before args s = true) (hown : s.vm.findClass R_Model = some m.cls) (hK : va_K (dC, dI) cls_all (gT LM km) s) (hP : va_P (dC, dI) cls_all (gW LM ad km T) H) (hdg : decode cc pc = .ok (.getfield 717, 3)) (kk : W p l e R s m args below meth c H locs cells slots Q (F0 m (pc + 3) ls (.int (T.1 94 0) :: rest))) : W p l e R s m args below meth c H locs cells slots Q (F0 m pc ls (.ref (ad 0) :: rest)) := gw_get hx hb hT i_Model hown hK hP 0 94 94 (Nat.le_of_ble_eq_true rfl) rfl rfl (Nat.le_of_ble_eq_true rfl) rfl (gv_i rfl) (hT _ fl_Model_717) (fun _ h9 => h9) hdg kk
theorem rd_Model_192 (hx : p.tables.exec = Jvm.exec) (hb : c.code = cc) (hT : ∀ w ∈ lw_good, w.before args s = true) (hown : s.vm.findClass R_Model = some m.cls) (hK : va_K (dC, dI) cls_all (gT LM km) s) (hP : va_P (dC, dI) cls_all (gW LM ad km T) H) (hdg : decode cc pc = .ok (.getfield 192, 3)) (kk : W p l e R s m args below meth c H locs cells slots Q (F0 m (pc + 3) ls (.ref (ad 60) :: rest))) : W p l e R s m args below meth c H locs cells slots Q (F0 m pc ls (.ref (ad 0) :: rest)) := gw_get hx hb hT i_Model hown hK hP 0 93 93 (Nat.le_of_ble_eq_true rfl) rfl rfl (Nat.le_of_ble_eq_true rfl) rfl (gv_a rfl) (hT _ fl_Model_192) (fun _ h9 => h9) hdg kk
theorem laM_59 (hx : p.tables.exec = Jvm.exec) (hb : c.code = cc) (hK : va_K (dC, dI) cls_all (gT LM km) s) (hP : va_P (dC, dI) cls_all (gW LM ad km T) H) {x : Int32} (hin : inb x 8200) (hdg : decode cc pc = .ok (.iaload, 1)) (kk : W p l e R s m args below meth c H locs cells slots Q (F0 m (pc + 1) ls (.int (T.1 93 x.toNatClampNeg) :: rest))) : W p l e R s m args below meth c H locs cells slots Q (F0 m pc ls (.int x :: .ref (ad 60) :: rest)) := gw_iald hx hb hK hP 59 93 8200 60 (Nat.le_of_ble_eq_true rfl) rfl rfl rfl rfl rfl hin hdg kk
theorem saM_59 (hx : p.tables.exec = Jvm.exec) (hb : c.code = cc) (hK : va_K (dC, dI) cls_all (gT LM km) s) (hP : va_P (dC, dI) cls_all (gW LM ad km T) H) (hD : va_D A (gW LM ad km T)) (hS : va_S A H0 H locs) {x : Int32} {v : Int32} (hin : inb x 8200) (hdg : decode cc pc = .ok (.iastore, 1)) (kk : ∀ (T1 : gSt), T1 = sI T 93 x.toNatClampNeg v → ∀ (H1 : Heap) (locs1 : List Loc), va_P (dC, dI) cls_all (gW LM ad km T1) H1 → va_D A (gW LM ad km T1) → va_S A H0 H1 locs1 → W p l e R s m args below meth c H1 locs1 cells slots Q (F0 m (pc + 1) ls rest)) : W p l e R s m args below meth c H locs cells slots Q (F0 m pc ls (.int v :: .int x :: .ref (ad 60) :: rest)) := gw_iast okM hx hb hK hP hD hS 59 93 8200 60 (Nat.le_of_ble_eq_true rfl) rfl rfl rfl rfl rfl hin hdg kk
theorem wr_Model_717 (hx : p.tables.exec = Jvm.exec) (hb : c.code = cc) (hT : ∀ w ∈ lw_good, w.before args s = true) (hown : s.vm.findClass R_Model = some m.cls) (hK : va_K (dC, dI) cls_all (gT LM km) s) (hP : va_P (dC, dI) cls_all (gW LM ad km T) H) (hD : va_D A (gW LM ad km T)) (hS : va_S A H0 H locs) {v : Int32} (hdg : decode cc pc = .ok (.putfield 717, 3)) (kk : ∀ (T1 : gSt), T1 = sI T 94 0 v → ∀ (H1 : Heap) (locs1 : List Loc), va_P (dC, dI) cls_all (gW LM ad km T1) H1 → va_D A (gW LM ad km T1) → va_S A H0 H1 locs1 → W p l e R s m args below meth c H1 locs1 cells slots Q (F0 m (pc + 3) ls rest)) : W p l e R s m args below meth c H locs cells slots Q (F0 m pc ls (.int v :: .ref (ad 0) :: rest)) := gw_puti okM hx hb hT i_Model t_Model t_Model_ok n_Model hown hK hP hD hS 0 94 94 (Nat.le_of_ble_eq_true rfl) rfl rfl (Nat.le_of_ble_eq_true rfl) rfl rfl (hT _ fl_Model_717) (fun _ h9 => h9) rfl (ty := .int) (by decide +kernel) rfl rfl hdg kk
theorem rd_Model_741 (hx : p.tables.exec = Jvm.exec) (hb : c.code = cc) (hT : ∀ w ∈ lw_good, w.before args s = true) (hown : s.vm.findClass R_Model = some m.cls) (hK : va_K (dC, dI) cls_all (gT LM km) s) (hP : va_P (dC, dI) cls_all (gW LM ad km T) H) (hdg : decode cc pc = .ok (.getfield 741, 3)) (kk : W p l e R s m args below meth c H locs cells slots Q (F0 m (pc + 3) ls (.int (T.1 88 0) :: rest))) : W p l e R s m args below meth c H locs cells slots Q (F0 m pc ls (.ref (ad 0) :: rest)) := gw_get hx hb hT i_Model hown hK hP 0 88 88 (Nat.le_of_ble_eq_true rfl) rfl rfl (Nat.le_of_ble_eq_true rfl) rfl (gv_i rfl) (hT _ fl_Model_741) (fun _ h9 => h9) hdg kk
theorem wr_Model_741 (hx : p.tables.exec = Jvm.exec) (hb : c.code = cc) (hT : ∀ w ∈ lw_good, w.before args s = true) (hown : s.vm.findClass R_Model = some m.cls) (hK : va_K (dC, dI) cls_all (gT LM km) s) (hP : va_P (dC, dI) cls_all (gW LM ad km T) H) (hD : va_D A (gW LM ad km T)) (hS : va_S A H0 H locs) {v : Int32} (hdg : decode cc pc = .ok (.putfield 741, 3)) (kk : ∀ (T1 : gSt), T1 = sI T 88 0 v → ∀ (H1 : Heap) (locs1 : List Loc), va_P (dC, dI) cls_all (gW LM ad km T1) H1 → va_D A (gW LM ad km T1) → va_S A H0 H1 locs1 → W p l e R s m args below meth c H1 locs1 cells slots Q (F0 m (pc + 3) ls rest)) : W p l e R s m args below meth c H locs cells slots Q (F0 m pc ls (.int v :: .ref (ad 0) :: rest)) := gw_puti okM hx hb hT i_Model t_Model t_Model_ok n_Model hown hK hP hD hS 0 88 88 (Nat.le_of_ble_eq_true rfl) rfl rfl (Nat.le_of_ble_eq_true rfl) rfl rfl (hT _ fl_Model_741) (fun _ h9 => h9) rfl (ty := .int) (by decide +kernel) rfl rfl hdg kk
theorem rd_Model_759 (hx : p.tables.exec = Jvm.exec) (hb : c.code = cc) (hT : ∀ w ∈ lw_good, w.before args s = true) (hown : s.vm.findClass R_Model = some m.cls) (hK : va_K (dC, dI) cls_all (gT LM km) s) (hP : va_P (dC, dI) cls_all (gW LM ad km T) H) (hdg : decode cc pc = .ok (.getfield 759, 3)) (kk : W p l e R s m args below meth c H locs cells slots Q (F0 m (pc + 3) ls (.int (T.1 89 0) :: rest))) : W p l e R s m args below meth c H locs cells slots Q (F0 m pc ls (.ref (ad 0) :: rest)) := gw_get hx hb hT i_Model hown hK hP 0 89 89 (Nat.le_of_ble_eq_true rfl) rfl rfl (Nat.le_of_ble_eq_true rfl) rfl (gv_i rfl) (hT _ fl_Model_759) (fun _ h9 => h9) hdg kk
theorem wr_Model_759 (hx : p.tables.exec = Jvm.exec) (hb : c.code = cc) (hT : ∀ w ∈ lw_good, w.before args s = true) (hown : s.vm.findClass R_Model = some m.cls) (hK : va_K (dC, dI) cls_all (gT LM km) s) (hP : va_P (dC, dI) cls_all (gW LM ad km T) H) (hD : va_D A (gW LM ad km T)) (hS : va_S A H0 H locs) {v : Int32} (hdg : decode cc pc = .ok (.putfield 759, 3)) (kk : ∀ (T1 : gSt), T1 = sI T 89 0 v → ∀ (H1 : Heap) (locs1 : List Loc), va_P (dC, dI) cls_all (gW LM ad km T1) H1 → va_D A (gW LM ad km T1) → va_S A H0 H1 locs1 → W p l e R s m args below meth c H1 locs1 cells slots Q (F0 m (pc + 3) ls rest)) : W p l e R s m args below meth c H locs cells slots Q (F0 m pc ls (.int v :: .ref (ad 0) :: rest)) := gw_puti okM hx hb hT i_Model t_Model t_Model_ok n_Model hown hK hP hD hS 0 89 89 (Nat.le_of_ble_eq_true rfl) rfl rfl (Nat.le_of_ble_eq_true rfl) rfl rfl (hT _ fl_Model_759) (fun _ h9 => h9) rfl (ty := .int) (by decide +kernel) rfl rfl hdg kk
end GV
def mt_Model_isLeft (l : Launch) (dC : Nat → ClassId) (dI : Nat → Nat → Nat) (ea ev ad : Nat → Nat) (km : Nat → ClassId) (F : gF) (d : Nat) : Prop := ∀ (T : gSt) (p1 : Int32) (r : Int32) (rl : Int64) (T' : gSt), F 85 T [p1] [] = some (r, rl, T') → GMi l dC dI LM ad km ea ev y_Model_isLeft w_Model_isLeft (rmD d) [.int p1] T r T'
theorem pd_Model_isLeft : (y_Model_isLeft).cls ≠ "java/lang/invoke/MethodHandle" ∧ (y_Model_isLeft).cls ≠ "java/lang/invoke/VarHandle" ∧ (parseMethodDescriptor (y_Model_isLeft).desc).map (fun d => d.parameters.length) = some 1 := by decide +kernel
def mt_Model_checkKind (l : Launch) (dC : Nat → ClassId) (dI : Nat → Nat → Nat) (ea ev ad : Nat → Nat) (km : Nat → ClassId) (F : gF) (d : Nat) : Prop := ∀ (T : gSt) (p1 : Int32) (r : Int32) (rl : Int64) (T' : gSt), F 87 T [p1] [] = some (r, rl, T') → GMi l dC dI LM ad km ea ev y_Model_checkKind w_Model_checkKind (rmD d) [.ref (ad 0), .int p1] T r T'
theorem pd_Model_checkKind : (y_Model_checkKind).cls = R_Model ∧ (y_Model_checkKind).cls ≠ "java/lang/invoke/MethodHandle" ∧ (y_Model_checkKind).cls ≠ "java/lang/invoke/VarHandle" ∧ (parseMethodDescriptor (y_Model_checkKind).desc).map (fun d => d.parameters.length) = some 1 := by decide +kernel
def mt_Model_checkName (l : Launch) (dC : Nat → ClassId) (dI : Nat → Nat → Nat) (ea ev ad : Nat → Nat) (km : Nat → ClassId) (F : gF) (d : Nat) : Prop := ∀ (T : gSt) (p1 : Int32) (r : Int32) (rl : Int64) (T' : gSt), F 88 T [p1] [] = some (r, rl, T') → GMi l dC dI LM ad km ea ev y_Model_checkName w_Model_checkName (rmD d) [.ref (ad 0), .int p1] T r T'
theorem pd_Model_checkName : (y_Model_checkName).cls = R_Model ∧ (y_Model_checkName).cls ≠ "java/lang/invoke/MethodHandle" ∧ (y_Model_checkName).cls ≠ "java/lang/invoke/VarHandle" ∧ (parseMethodDescriptor (y_Model_checkName).desc).map (fun d => d.parameters.length) = some 1 := by decide +kernel
def mt_Model_checkCall (l : Launch) (dC : Nat → ClassId) (dI : Nat → Nat → Nat) (ea ev ad : Nat → Nat) (km : Nat → ClassId) (F : gF) (d : Nat) : Prop := ∀ (T : gSt) (p1 : Int32) (r : Int32) (rl : Int64) (T' : gSt), F 95 T [p1] [] = some (r, rl, T') → GMi l dC dI LM ad km ea ev y_Model_checkCall w_Model_checkCall (rmD d) [.ref (ad 0), .int p1] T r T'
theorem pd_Model_checkCall : (y_Model_checkCall).cls = R_Model ∧ (y_Model_checkCall).cls ≠ "java/lang/invoke/MethodHandle" ∧ (y_Model_checkCall).cls ≠ "java/lang/invoke/VarHandle" ∧ (parseMethodDescriptor (y_Model_checkCall).desc).map (fun d => d.parameters.length) = some 1 := by decide +kernel
def mt_Model_checkNew (l : Launch) (dC : Nat → ClassId) (dI : Nat → Nat → Nat) (ea ev ad : Nat → Nat) (km : Nat → ClassId) (F : gF) (d : Nat) : Prop := ∀ (T : gSt) (p1 : Int32) (r : Int32) (rl : Int64) (T' : gSt), F 93 T [p1] [] = some (r, rl, T') → GMi l dC dI LM ad km ea ev y_Model_checkNew w_Model_checkNew (rmD d) [.ref (ad 0), .int p1] T r T'
theorem pd_Model_checkNew : (y_Model_checkNew).cls = R_Model ∧ (y_Model_checkNew).cls ≠ "java/lang/invoke/MethodHandle" ∧ (y_Model_checkNew).cls ≠ "java/lang/invoke/VarHandle" ∧ (parseMethodDescriptor (y_Model_checkNew).desc).map (fun d => d.parameters.length) = some 1 := by decide +kernel
def mt_Model_checkMade (l : Launch) (dC : Nat → ClassId) (dI : Nat → Nat → Nat) (ea ev ad : Nat → Nat) (km : Nat → ClassId) (F : gF) (d : Nat) : Prop := ∀ (T : gSt) (p1 : Int32) (r : Int32) (rl : Int64) (T' : gSt), F 92 T [p1] [] = some (r, rl, T') → GMi l dC dI LM ad km ea ev y_Model_checkMade w_Model_checkMade (rmD d) [.ref (ad 0), .int p1] T r T'
theorem pd_Model_checkMade : (y_Model_checkMade).cls = R_Model ∧ (y_Model_checkMade).cls ≠ "java/lang/invoke/MethodHandle" ∧ (y_Model_checkMade).cls ≠ "java/lang/invoke/VarHandle" ∧ (parseMethodDescriptor (y_Model_checkMade).desc).map (fun d => d.parameters.length) = some 1 := by decide +kernel
def mt_Model_checkAnd (l : Launch) (dC : Nat → ClassId) (dI : Nat → Nat → Nat) (ea ev ad : Nat → Nat) (km : Nat → ClassId) (F : gF) (d : Nat) : Prop := ∀ (T : gSt) (p1 : Int32) (r : Int32) (rl : Int64) (T' : gSt), F 91 T [p1] [] = some (r, rl, T') → GMi l dC dI LM ad km ea ev y_Model_checkAnd w_Model_checkAnd (rmD d) [.ref (ad 0), .int p1] T r T'
theorem pd_Model_checkAnd : (y_Model_checkAnd).cls = R_Model ∧ (y_Model_checkAnd).cls ≠ "java/lang/invoke/MethodHandle" ∧ (y_Model_checkAnd).cls ≠ "java/lang/invoke/VarHandle" ∧ (parseMethodDescriptor (y_Model_checkAnd).desc).map (fun d => d.parameters.length) = some 1 := by decide +kernel
def mt_Model_checkOperator (l : Launch) (dC : Nat → ClassId) (dI : Nat → Nat → Nat) (ea ev ad : Nat → Nat) (km : Nat → ClassId) (F : gF) (d : Nat) : Prop := ∀ (T : gSt) (p1 : Int32) (r : Int32) (rl : Int64) (T' : gSt), F 96 T [p1] [] = some (r, rl, T') → GMi l dC dI LM ad km ea ev y_Model_checkOperator w_Model_checkOperator (rmD d) [.ref (ad 0), .int p1] T r T'
theorem pd_Model_checkOperator : (y_Model_checkOperator).cls = R_Model ∧ (y_Model_checkOperator).cls ≠ "java/lang/invoke/MethodHandle" ∧ (y_Model_checkOperator).cls ≠ "java/lang/invoke/VarHandle" ∧ (parseMethodDescriptor (y_Model_checkOperator).desc).map (fun d => d.parameters.length) = some 1 := by decide +kernel
def mt_Model_checkThrough (l : Launch) (dC : Nat → ClassId) (dI : Nat → Nat → Nat) (ea ev ad : Nat → Nat) (km : Nat → ClassId) (F : gF) (d : Nat) : Prop := ∀ (T : gSt) (p1 : Int32) (r : Int32) (rl : Int64) (T' : gSt), F 89 T [p1] [] = some (r, rl, T') → GMi l dC dI LM ad km ea ev y_Model_checkThrough w_Model_checkThrough (rmD d) [.ref (ad 0), .int p1] T r T'
theorem pd_Model_checkThrough : (y_Model_checkThrough).cls = R_Model ∧ (y_Model_checkThrough).cls ≠ "java/lang/invoke/MethodHandle" ∧ (y_Model_checkThrough).cls ≠ "java/lang/invoke/VarHandle" ∧ (parseMethodDescriptor (y_Model_checkThrough).desc).map (fun d => d.parameters.length) = some 1 := by decide +kernel
def mt_Model_checkIndex (l : Launch) (dC : Nat → ClassId) (dI : Nat → Nat → Nat) (ea ev ad : Nat → Nat) (km : Nat → ClassId) (F : gF) (d : Nat) : Prop := ∀ (T : gSt) (p1 : Int32) (r : Int32) (rl : Int64) (T' : gSt), F 90 T [p1] [] = some (r, rl, T') → GMi l dC dI LM ad km ea ev y_Model_checkIndex w_Model_checkIndex (rmD d) [.ref (ad 0), .int p1] T r T'
theorem pd_Model_checkIndex : (y_Model_checkIndex).cls = R_Model ∧ (y_Model_checkIndex).cls ≠ "java/lang/invoke/MethodHandle" ∧ (y_Model_checkIndex).cls ≠ "java/lang/invoke/VarHandle" ∧ (parseMethodDescriptor (y_Model_checkIndex).desc).map (fun d => d.parameters.length) = some 1 := by decide +kernel
set_option maxHeartbeats 4000000 in
set_option maxRecDepth 100000 in
theorem sp_Model_checkWhile (l : Launch) (dC : Nat → ClassId) (dI : Nat → Nat → Nat) (ea ev ad : Nat → Nat) (km : Nat → ClassId) (F : gF) (nf d : Nat) (h_Model_given : mt_Model_given l dC dI ea ev ad km F d) (h_Model_checkCondition : mt_Model_checkCondition l dC dI ea ev ad km F d) (h_Model_bad : mt_Model_bad l dC dI ea ev ad km F d) (h_Model_asked : mt_Model_asked l dC dI ea ev ad km F d) (h_Model_knowing : mt_Model_knowing l dC dI ea ev ad km F d) (h_Model_checkBlock : mt_Model_checkBlock l dC dI ea ev ad km F d) (h_Model_fail : mt_Model_fail l dC dI ea ev ad km F d) (T0 : gSt) (p1 : Int32) (r0 : Int32) (rl0 : Int64) (T9 : gSt) (hR : rb_Model_checkWhile F nf T0 p1 = some (r0, rl0, T9)) : GMv l dC dI LM ad km ea ev y_Model_checkWhile w_Model_checkWhile (rmD (d + 1)) [.ref (ad 0), .int p1] T0 T9 := by
  intro sz
  refine Met.ofW (cc := b_Model_checkWhile) (maxL := 8) (ret := none) (by decide) rfl ?_
  intro p e s m args below meth c s₁ B hml hv
  obtain ⟨rfl, hsz, hP, hK, hD0, hnw, henv⟩ := hv
  have hx := B.exec
  have hb := B.bytes
  have hr := B.returns
  have hT : ∀ w ∈ lw_good, w.before _ s = true := fun w h => atoms_spec (ws := w_Model_checkWhile) B.pre w (List.mem_cons_of_mem _ h)
  have hown : s.vm.findClass R_Model = some m.cls := findClass_of_methodNamed B.named
  subst hsz
  have hD := hD0.self (sz := s.heap.size)
  clear hD0
  generalize hAe : va_A (gW LM ad km T0) s.heap.size = A at hD henv ⊢
  have hA : ∀ q : Nat, s.heap.size ≤ q → A q := fun q h => by rw [← hAe]; exact Or.inr h
  have hS : va_S A s.heap s.heap [] := va_S.rf
  have hl := lv_entry ([.ref (ad 0), .int p1]) (n := 8) (Nat.le_of_ble_eq_true rfl)
  rw [lg_entry_eq]
  generalize (lg_sl ([.ref (ad 0), .int p1]) ++ List.replicate (8 - (lg_sl ([.ref (ad 0), .int p1])).length) Slot.unset).toArray = ls at hl ⊢
  have hl : lv_has ls 8 [(0, .ref (ad 0)), (1, .int p1)] := hl
  obtain ⟨G, hG⟩ : ∃ G : Nat → List (Nat × Value) → List Value → gSt → Prop, G = (fun pc lv stk T => ∀ (H : Heap) (locs : List Loc), va_P (dC, dI) cls_all (gW LM ad km T) H → va_D A (gW LM ad km T) → va_S A s.heap H locs → ∀ (ls : Array Slot), lv_has ls 8 lv → W p l e (headSpec w_Model_checkWhile (rmD (d + 1))).room s m ([.ref (ad 0), .int p1] : List Value).toArray below meth c H locs 0 0 (MQ below (va_Qv (fun (_ : Unit) => True) (fun _ t => gPost dC dI LM ad km T9 A t) A) ([.ref (ad 0), .int p1] : List Value).toArray s 0 0 A) (F0 m pc ls stk)) := ⟨_, rfl⟩
  have lb_144 : ∀ (T : gSt) (x3 : Int32) (x4 : Int32) (x5 : Int32) (x6 : Int32) (x7 : Int32), rj_Model_checkWhile_144 F nf T x3 x4 x5 x6 x7 = some (r0, rl0, T9) → G 144 [(0, .ref (ad 0)), (3, .int x3), (4, .int x4), (5, .int x5), (6, .int x6), (7, .int x7)] [] T := by
    intro T x3 x4 x5 x6 x7 hR; unfold rj_Model_checkWhile_144 at hR; rw [hG]; intro H locs hP hD hS ls hl
    refine lv_aload_n hx hb d_Model_checkWhile_144 rfl (lv_at hl 0 rfl) ?_
    refine lv_iload hx hb d_Model_checkWhile_145 (lv_at hl 2 rfl) ?_
    refine wr_Model_624 hx hb hT hown hK hP hD hS d_Model_checkWhile_147 (fun T26 eT H locs hP hD hS => ?_)
    replace hR := stK_e eT hR
    clear eT
    refine lv_aload_n hx hb d_Model_checkWhile_150 rfl (lv_at hl 0 rfl) ?_
    refine lv_iload hx hb d_Model_checkWhile_151 (lv_at hl 3 rfl) ?_
    refine wr_Model_627 hx hb hT hown hK hP hD hS d_Model_checkWhile_153 (fun T27 eT H locs hP hD hS => ?_)
    replace hR := stK_e eT hR
    clear eT
    refine lv_aload_n hx hb d_Model_checkWhile_156 rfl (lv_at hl 0 rfl) ?_
    refine lv_iload hx hb d_Model_checkWhile_157 (lv_at hl 4 rfl) ?_
    refine wr_Model_575 hx hb hT hown hK hP hD hS d_Model_checkWhile_159 (fun T28 eT H locs hP hD hS => ?_)
    replace hR := stK_e eT hR
    clear eT
    refine lv_aload_n hx hb d_Model_checkWhile_162 rfl (lv_at hl 0 rfl) ?_
    refine lv_iload hx hb d_Model_checkWhile_163 (lv_at hl 5 rfl) ?_
    replace hR := gd_e hR
    obtain ⟨b29, hR⟩ := hR
    refine wr_Model_630 hx hb hT hown hK hP hD hS b29 d_Model_checkWhile_165 (fun T29 eT H locs hP hD hS => ?_)
    replace hR := stK_e eT hR
    clear eT
    refine lv_aload_n hx hb d_Model_checkWhile_168 rfl (lv_at hl 0 rfl) ?_
    refine lv_iload_n hx hb d_Model_checkWhile_169 rfl (lv_at hl 1 rfl) ?_
    replace hR := bi_e hR
    obtain ⟨r30, l30, T30, hc30, hR⟩ := hR
    refine gcV_v (rest := []) ⟨hx, hb, hml, hown, hT⟩ (h_Model_knowing _ _ _ _ _ hc30) (cwV 1 hT (gV ml_Model_708 im_Model_knowing se_Model_knowing ini_Model co_Model_knowing) rfl rfl rfl pd_Model_knowing ⟨rm_hi, rm_lo (Nat.le_of_ble_eq_true rfl)⟩) hK hP hD hS hA hnw henv (Nat.le_of_ble_eq_true rfl) rfl rfl hl.1 rfl (Nat.le_of_ble_eq_true rfl) d_Model_checkWhile_170 ⟨Nat.le_refl _, Nat.le_refl _⟩ (fun H locs hP hD hS => ?_)
    clear hc30
    obtain ⟨-, -, e3⟩ := re_e hR
    subst e3
    exact W.vret hx hb hr (fun t ht hW => ⟨⟨(), rfl, trivial, by rw [ht]; exact hP, va_K.moved hW.alike hK, hD⟩, hS.F ht⟩) hS.2.2 d_Model_checkWhile_173
  have lb_28 : ∀ (T : gSt) (x1 : Int32), rj_Model_checkWhile_28 F nf T x1 = some (r0, rl0, T9) → G 28 [(0, .ref (ad 0)), (1, .int x1)] [] T := by
    intro T x1 hR; unfold rj_Model_checkWhile_28 at hR; rw [hG]; intro H locs hP hD hS ls hl
    refine lv_aload_n hx hb d_Model_checkWhile_28 rfl (lv_at hl 0 rfl) ?_
    refine lv_aload_n hx hb d_Model_checkWhile_29 rfl (lv_at hl 0 rfl) ?_
    refine rd_Model_126 hx hb hT hown hK hP d_Model_checkWhile_30 ?_
    refine lv_iload_n hx hb d_Model_checkWhile_33 rfl (lv_at hl 1 rfl) ?_
    replace hR := gd_e hR
    obtain ⟨b5, hR⟩ := hR
    refine laM_37 hx hb hK hP b5 d_Model_checkWhile_34 ?_
    replace hR := bi_e hR
    obtain ⟨r6, l6, T6, hc6, hR⟩ := hR
    refine gcV_v (rest := []) ⟨hx, hb, hml, hown, hT⟩ (h_Model_checkCondition _ _ _ _ _ hc6) (cwV 1 hT (gV ml_Model_701 im_Model_checkCondition se_Model_checkCondition ini_Model co_Model_checkCondition) rfl rfl rfl pd_Model_checkCondition ⟨rm_hi, rm_lo (Nat.le_of_ble_eq_true rfl)⟩) hK hP hD hS hA hnw henv (Nat.le_of_ble_eq_true rfl) rfl rfl hl.1 rfl (Nat.le_of_ble_eq_true rfl) d_Model_checkWhile_35 ⟨Nat.le_refl _, Nat.le_refl _⟩ (fun H locs hP hD hS => ?_)
    clear hc6
    refine lv_aload_n hx hb d_Model_checkWhile_38 rfl (lv_at hl 0 rfl) ?_
    replace hR := bi_e hR
    obtain ⟨r7, l7, T7, hc7, hR⟩ := hR
    refine gcV_i (rest := []) ⟨hx, hb, hml, hown, hT⟩ (h_Model_bad _ _ _ _ hc7) (cwV 0 hT (gV ml_Model_385 im_Model_bad se_Model_bad ini_Model co_Model_bad) rfl rfl rfl pd_Model_bad ⟨rm_hi, rm_lo (Nat.le_of_ble_eq_true rfl)⟩) hK hP hD hS hA hnw henv (Nat.le_of_ble_eq_true rfl) rfl rfl hl.1 rfl (Nat.le_of_ble_eq_true rfl) d_Model_checkWhile_39 ⟨Nat.le_refl _, Nat.le_refl _⟩ (fun H locs hP hD hS => ?_)
    clear hc7
    refine lv_if_eq (tgt := 46) hx hb d_Model_checkWhile_42 (by decide) (fun c8 => ?_) (fun c8 => ?_)
    · replace hR := if_p c8 hR
      refine lv_aload_n hx hb d_Model_checkWhile_46 rfl (lv_at hl 0 rfl) ?_
      refine lv_aload_n hx hb d_Model_checkWhile_47 rfl (lv_at hl 0 rfl) ?_
      refine rd_Model_126 hx hb hT hown hK hP d_Model_checkWhile_48 ?_
      refine lv_iload_n hx hb d_Model_checkWhile_51 rfl (lv_at hl 1 rfl) ?_
      replace hR := gd_e hR
      obtain ⟨b9, hR⟩ := hR
      refine laM_37 hx hb hK hP b9 d_Model_checkWhile_52 ?_
      refine lv_iconst (v := 0) hx hb d_Model_checkWhile_53 (by decide) ?_
      replace hR := bi_e hR
      obtain ⟨r10, l10, T10, hc10, hR⟩ := hR
      refine gcV_i (rest := []) ⟨hx, hb, hml, hown, hT⟩ (h_Model_asked _ _ _ _ _ _ hc10) (cwV 2 hT (gV ml_Model_704 im_Model_asked se_Model_asked ini_Model co_Model_asked) rfl rfl rfl pd_Model_asked ⟨rm_hi, rm_lo (Nat.le_of_ble_eq_true rfl)⟩) hK hP hD hS hA hnw henv (Nat.le_of_ble_eq_true rfl) rfl rfl hl.1 rfl (Nat.le_of_ble_eq_true rfl) d_Model_checkWhile_54 ⟨Nat.le_refl _, Nat.le_refl _⟩ (fun H locs hP hD hS => ?_)
      clear hc10
      refine lv_istore_n (lv' := [(2, .int r10), (0, .ref (ad 0)), (1, .int x1)]) hx hb d_Model_checkWhile_57 rfl hl (by decide) rfl (fun ls hl => ?_)
      refine lv_aload_n hx hb d_Model_checkWhile_58 rfl (lv_at hl 1 rfl) ?_
      refine lv_aload_n hx hb d_Model_checkWhile_59 rfl (lv_at hl 1 rfl) ?_
      refine rd_Model_126 hx hb hT hown hK hP d_Model_checkWhile_60 ?_
      refine lv_iload_n hx hb d_Model_checkWhile_63 rfl (lv_at hl 2 rfl) ?_
      replace hR := gd_e hR
      obtain ⟨b11, hR⟩ := hR
      refine laM_37 hx hb hK hP b11 d_Model_checkWhile_64 ?_
      refine lv_iconst (v := 1) hx hb d_Model_checkWhile_65 (by decide) ?_
      replace hR := bi_e hR
      obtain ⟨r12, l12, T12, hc12, hR⟩ := hR
      refine gcV_i (rest := []) ⟨hx, hb, hml, hown, hT⟩ (h_Model_asked _ _ _ _ _ _ hc12) (cwV 2 hT (gV ml_Model_704 im_Model_asked se_Model_asked ini_Model co_Model_asked) rfl rfl rfl pd_Model_asked ⟨rm_hi, rm_lo (Nat.le_of_ble_eq_true rfl)⟩) hK hP hD hS hA hnw henv (Nat.le_of_ble_eq_true rfl) rfl rfl hl.1 rfl (Nat.le_of_ble_eq_true rfl) d_Model_checkWhile_66 ⟨Nat.le_refl _, Nat.le_refl _⟩ (fun H locs hP hD hS => ?_)
      clear hc12
      refine lv_istore_n (lv' := [(3, .int r12), (2, .int r10), (0, .ref (ad 0)), (1, .int x1)]) hx hb d_Model_checkWhile_69 rfl hl (by decide) rfl (fun ls hl => ?_)
      refine lv_aload_n hx hb d_Model_checkWhile_70 rfl (lv_at hl 2 rfl) ?_
      refine rd_Model_624 hx hb hT hown hK hP d_Model_checkWhile_71 ?_
      refine lv_topi (fun z13 e13 => ?_)
      replace hR := vK_e e13 hR
      refine lv_istore (lv' := [(4, .int z13), (3, .int r12), (2, .int r10), (0, .ref (ad 0)), (1, .int x1)]) hx hb d_Model_checkWhile_74 hl (by decide) rfl (fun ls hl => ?_)
      refine lv_aload_n hx hb d_Model_checkWhile_76 rfl (lv_at hl 3 rfl) ?_
      refine rd_Model_627 hx hb hT hown hK hP d_Model_checkWhile_77 ?_
      refine lv_topi (fun z14 e14 => ?_)
      replace hR := vK_e e14 hR
      refine lv_istore (lv' := [(5, .int z14), (4, .int z13), (3, .int r12), (2, .int r10), (0, .ref (ad 0)), (1, .int x1)]) hx hb d_Model_checkWhile_80 hl (by decide) rfl (fun ls hl => ?_)
      refine lv_aload_n hx hb d_Model_checkWhile_82 rfl (lv_at hl 4 rfl) ?_
      refine rd_Model_575 hx hb hT hown hK hP d_Model_checkWhile_83 ?_
      refine lv_topi (fun z15 e15 => ?_)
      replace hR := vK_e e15 hR
      refine lv_istore (lv' := [(6, .int z15), (5, .int z14), (4, .int z13), (3, .int r12), (2, .int r10), (0, .ref (ad 0)), (1, .int x1)]) hx hb d_Model_checkWhile_86 hl (by decide) rfl (fun ls hl => ?_)
      refine lv_aload_n hx hb d_Model_checkWhile_88 rfl (lv_at hl 5 rfl) ?_
      refine rd_Model_630 hx hb hT hown hK hP d_Model_checkWhile_89 ?_
      refine lv_topi (fun z16 e16 => ?_)
      replace hR := vK_e e16 hR
      refine lv_istore (lv' := [(7, .int z16), (6, .int z15), (5, .int z14), (4, .int z13), (3, .int r12), (2, .int r10), (0, .ref (ad 0)), (1, .int x1)]) hx hb d_Model_checkWhile_92 hl (by decide) rfl (fun ls hl => ?_)
      refine lv_aload_n hx hb d_Model_checkWhile_94 rfl (lv_at hl 6 rfl) ?_
      refine lv_iload_n hx hb d_Model_checkWhile_95 rfl (lv_at hl 5 rfl) ?_
      replace hR := bi_e hR
      obtain ⟨r17, l17, T17, hc17, hR⟩ := hR
      refine gcV_v (rest := []) ⟨hx, hb, hml, hown, hT⟩ (h_Model_knowing _ _ _ _ _ hc17) (cwV 1 hT (gV ml_Model_708 im_Model_knowing se_Model_knowing ini_Model co_Model_knowing) rfl rfl rfl pd_Model_knowing ⟨rm_hi, rm_lo (Nat.le_of_ble_eq_true rfl)⟩) hK hP hD hS hA hnw henv (Nat.le_of_ble_eq_true rfl) rfl rfl hl.1 rfl (Nat.le_of_ble_eq_true rfl) d_Model_checkWhile_96 ⟨Nat.le_refl _, Nat.le_refl _⟩ (fun H locs hP hD hS => ?_)
      clear hc17
      refine lv_aload_n hx hb d_Model_checkWhile_99 rfl (lv_at hl 6 rfl) ?_
      refine lv_aload_n hx hb d_Model_checkWhile_100 rfl (lv_at hl 6 rfl) ?_
      refine rd_Model_129 hx hb hT hown hK hP d_Model_checkWhile_101 ?_
      refine lv_iload_n hx hb d_Model_checkWhile_104 rfl (lv_at hl 7 rfl) ?_
      replace hR := gd_e hR
      obtain ⟨b18, hR⟩ := hR
      refine laM_38 hx hb hK hP b18 d_Model_checkWhile_105 ?_
      replace hR := bi_e hR
      obtain ⟨r19, l19, T19, hc19, hR⟩ := hR
      refine gcV_v (rest := []) ⟨hx, hb, hml, hown, hT⟩ (h_Model_checkBlock _ _ _ _ _ hc19) (cwV 1 hT (gV ml_Model_646 im_Model_checkBlock se_Model_checkBlock ini_Model co_Model_checkBlock) rfl rfl rfl pd_Model_checkBlock ⟨rm_hi, rm_lo (Nat.le_of_ble_eq_true rfl)⟩) hK hP hD hS hA hnw henv (Nat.le_of_ble_eq_true rfl) rfl rfl hl.1 rfl (Nat.le_of_ble_eq_true rfl) d_Model_checkWhile_106 ⟨Nat.le_refl _, Nat.le_refl _⟩ (fun H locs hP hD hS => ?_)
      clear hc19
      refine lv_aload_n hx hb d_Model_checkWhile_109 rfl (lv_at hl 6 rfl) ?_
      replace hR := bi_e hR
      obtain ⟨r20, l20, T20, hc20, hR⟩ := hR
      refine gcV_i (rest := []) ⟨hx, hb, hml, hown, hT⟩ (h_Model_bad _ _ _ _ hc20) (cwV 0 hT (gV ml_Model_385 im_Model_bad se_Model_bad ini_Model co_Model_bad) rfl rfl rfl pd_Model_bad ⟨rm_hi, rm_lo (Nat.le_of_ble_eq_true rfl)⟩) hK hP hD hS hA hnw henv (Nat.le_of_ble_eq_true rfl) rfl rfl hl.1 rfl (Nat.le_of_ble_eq_true rfl) d_Model_checkWhile_110 ⟨Nat.le_refl _, Nat.le_refl _⟩ (fun H locs hP hD hS => ?_)
      clear hc20
      refine lv_if_ne (tgt := 144) hx hb d_Model_checkWhile_113 (by decide) (fun c21 => ?_) (fun c21 => ?_)
      · replace hR := if_n c21 hR
        have g := lb_144 T20 r12 z13 z14 z15 z16 hR
        rw [hG] at g
        exact g _ _ hP hD hS _ (lv_sub hl [6, 4, 3, 2, 1, 0] rfl)
      · replace hR := if_p c21 hR
        refine lv_aload_n hx hb d_Model_checkWhile_116 rfl (lv_at hl 6 rfl) ?_
        refine rd_Model_630 hx hb hT hown hK hP d_Model_checkWhile_117 ?_
        refine lv_if_eq (tgt := 144) hx hb d_Model_checkWhile_120 (by decide) (fun c22 => ?_) (fun c22 => ?_)
        · replace hR := if_p c22 hR
          have g := lb_144 T20 r12 z13 z14 z15 z16 hR
          rw [hG] at g
          exact g _ _ hP hD hS _ (lv_sub hl [6, 4, 3, 2, 1, 0] rfl)
        · replace hR := if_n c22 hR
          refine lv_aload_n hx hb d_Model_checkWhile_123 rfl (lv_at hl 6 rfl) ?_
          refine rd_Model_575 hx hb hT hown hK hP d_Model_checkWhile_124 ?_
          refine lv_iload hx hb d_Model_checkWhile_127 (lv_at hl 1 rfl) ?_
          refine lv_icmp_eq (tgt := 144) hx hb d_Model_checkWhile_129 (by decide) (fun c23 => ?_) (fun c23 => ?_)
          · replace hR := if_p c23 hR
            have g := lb_144 T20 r12 z13 z14 z15 z16 hR
            rw [hG] at g
            exact g _ _ hP hD hS _ (lv_sub hl [6, 4, 3, 2, 1, 0] rfl)
          · replace hR := if_n c23 hR
            refine lv_aload_n hx hb d_Model_checkWhile_132 rfl (lv_at hl 6 rfl) ?_
            refine lv_bipush (v := 8) hx hb d_Model_checkWhile_133 (by decide) ?_
            refine lv_aload_n hx hb d_Model_checkWhile_135 rfl (lv_at hl 6 rfl) ?_
            refine rd_Model_123 hx hb hT hown hK hP d_Model_checkWhile_136 ?_
            refine lv_iload_n hx hb d_Model_checkWhile_139 rfl (lv_at hl 7 rfl) ?_
            replace hR := gd_e hR
            obtain ⟨b24, hR⟩ := hR
            refine laM_36 hx hb hK hP b24 d_Model_checkWhile_140 ?_
            replace hR := bi_e hR
            obtain ⟨r25, l25, T25, hc25, hR⟩ := hR
            refine gcV_v (rest := []) ⟨hx, hb, hml, hown, hT⟩ (h_Model_fail _ _ _ _ _ _ hc25) (cwV 2 hT (gV ml_Model_381 im_Model_fail se_Model_fail ini_Model co_Model_fail) rfl rfl rfl pd_Model_fail ⟨rm_hi, rm_lo (Nat.le_of_ble_eq_true rfl)⟩) hK hP hD hS hA hnw henv (Nat.le_of_ble_eq_true rfl) rfl rfl hl.1 rfl (Nat.le_of_ble_eq_true rfl) d_Model_checkWhile_141 ⟨Nat.le_refl _, Nat.le_refl _⟩ (fun H locs hP hD hS => ?_)
            clear hc25
            have g := lb_144 T25 r12 z13 z14 z15 z16 hR
            rw [hG] at g
            exact g _ _ hP hD hS _ (lv_sub hl [6, 4, 3, 2, 1, 0] rfl)
    · replace hR := if_n c8 hR
      obtain ⟨-, -, e3⟩ := re_e hR
      subst e3
      exact W.vret hx hb hr (fun t ht hW => ⟨⟨(), rfl, trivial, by rw [ht]; exact hP, va_K.moved hW.alike hK, hD⟩, hS.F ht⟩) hS.2.2 d_Model_checkWhile_45
  unfold rb_Model_checkWhile at hR
  refine lv_aload_n hx hb d_Model_checkWhile_0 rfl (lv_at hl 0 rfl) ?_
  refine rd_Model_630 hx hb hT hown hK hP d_Model_checkWhile_1 ?_
  refine lv_if_eq (tgt := 28) hx hb d_Model_checkWhile_4 (by decide) (fun c1 => ?_) (fun c1 => ?_)
  · replace hR := if_p c1 hR
    have g := lb_28 T0 p1 hR
    rw [hG] at g
    exact g _ _ hP hD hS _ (lv_sub hl [0, 1] rfl)
  · replace hR := if_n c1 hR
    refine lv_aload_n hx hb d_Model_checkWhile_7 rfl (lv_at hl 0 rfl) ?_
    refine lv_dup hx hb d_Model_checkWhile_8 rfl ?_
    refine rd_Model_627 hx hb hT hown hK hP d_Model_checkWhile_9 ?_
    refine lv_aload_n hx hb d_Model_checkWhile_12 rfl (lv_at hl 0 rfl) ?_
    refine lv_aload_n hx hb d_Model_checkWhile_13 rfl (lv_at hl 0 rfl) ?_
    refine rd_Model_129 hx hb hT hown hK hP d_Model_checkWhile_14 ?_
    refine lv_iload_n hx hb d_Model_checkWhile_17 rfl (lv_at hl 1 rfl) ?_
    replace hR := gd_e hR
    obtain ⟨b2, hR⟩ := hR
    refine laM_38 hx hb hK hP b2 d_Model_checkWhile_18 ?_
    replace hR := bi_e hR
    obtain ⟨r3, l3, T3, hc3, hR⟩ := hR
    refine gcV_i (rest := [.int (T0.1 82 0), .ref (ad 0)]) ⟨hx, hb, hml, hown, hT⟩ (h_Model_given _ _ _ _ _ hc3) (cwV 1 hT (gV ml_Model_715 im_Model_given se_Model_given ini_Model co_Model_given) rfl rfl rfl pd_Model_given ⟨rm_hi, rm_lo (Nat.le_of_ble_eq_true rfl)⟩) hK hP hD hS hA hnw henv (Nat.le_of_ble_eq_true rfl) rfl rfl hl.1 rfl (Nat.le_of_ble_eq_true rfl) d_Model_checkWhile_19 ⟨Nat.le_refl _, Nat.le_refl _⟩ (fun H locs hP hD hS => ?_)
    clear hc3
    refine lv_iconst (v := (-1)) hx hb d_Model_checkWhile_22 (by decide) ?_
    refine lv_ixor hx hb d_Model_checkWhile_23 ?_
    refine lv_iand hx hb d_Model_checkWhile_24 ?_
    refine wr_Model_627 hx hb hT hown hK hP hD hS d_Model_checkWhile_25 (fun T4 eT H locs hP hD hS => ?_)
    replace hR := stK_e eT hR
    clear eT
    have g := lb_28 T4 p1 hR
    rw [hG] at g
    exact g _ _ hP hD hS _ (lv_sub hl [0, 1] rfl)
set_option maxHeartbeats 4000000 in
set_option maxRecDepth 100000 in
theorem sp_Model_checkReturn (l : Launch) (dC : Nat → ClassId) (dI : Nat → Nat → Nat) (ea ev ad : Nat → Nat) (km : Nat → ClassId) (F : gF) (nf d : Nat) (h_Model_fail : mt_Model_fail l dC dI ea ev ad km F d) (h_Model_bad : mt_Model_bad l dC dI ea ev ad km F d) (h_Model_stop : mt_Model_stop l dC dI ea ev ad km F d) (h_Model_check : mt_Model_check l dC dI ea ev ad km F d) (h_Model_fit : mt_Model_fit l dC dI ea ev ad km F d) (T0 : gSt) (p1 : Int32) (r0 : Int32) (rl0 : Int64) (T9 : gSt) (hR : rb_Model_checkReturn F nf T0 p1 = some (r0, rl0, T9)) : GMv l dC dI LM ad km ea ev y_Model_checkReturn w_Model_checkReturn (rmD (d + 1)) [.ref (ad 0), .int p1] T0 T9 := by
  intro sz
  refine Met.ofW (cc := b_Model_checkReturn) (maxL := 3) (ret := none) (by decide) rfl ?_
  intro p e s m args below meth c s₁ B hml hv
  obtain ⟨rfl, hsz, hP, hK, hD0, hnw, henv⟩ := hv
  have hx := B.exec
  have hb := B.bytes
  have hr := B.returns
  have hT : ∀ w ∈ lw_good, w.before _ s = true := fun w h => atoms_spec (ws := w_Model_checkReturn) B.pre w (List.mem_cons_of_mem _ h)
  have hown : s.vm.findClass R_Model = some m.cls := findClass_of_methodNamed B.named
  subst hsz
  have hD := hD0.self (sz := s.heap.size)
  clear hD0
  generalize hAe : va_A (gW LM ad km T0) s.heap.size = A at hD henv ⊢
  have hA : ∀ q : Nat, s.heap.size ≤ q → A q := fun q h => by rw [← hAe]; exact Or.inr h
  have hS : va_S A s.heap s.heap [] := va_S.rf
  have hl := lv_entry ([.ref (ad 0), .int p1]) (n := 3) (Nat.le_of_ble_eq_true rfl)
  rw [lg_entry_eq]
  generalize (lg_sl ([.ref (ad 0), .int p1]) ++ List.replicate (3 - (lg_sl ([.ref (ad 0), .int p1])).length) Slot.unset).toArray = ls at hl ⊢
  have hl : lv_has ls 3 [(0, .ref (ad 0)), (1, .int p1)] := hl
  obtain ⟨G, hG⟩ : ∃ G : Nat → List (Nat × Value) → List Value → gSt → Prop, G = (fun pc lv stk T => ∀ (H : Heap) (locs : List Loc), va_P (dC, dI) cls_all (gW LM ad km T) H → va_D A (gW LM ad km T) → va_S A s.heap H locs → ∀ (ls : Array Slot), lv_has ls 3 lv → W p l e (headSpec w_Model_checkReturn (rmD (d + 1))).room s m ([.ref (ad 0), .int p1] : List Value).toArray below meth c H locs 0 0 (MQ below (va_Qv (fun (_ : Unit) => True) (fun _ t => gPost dC dI LM ad km T9 A t) A) ([.ref (ad 0), .int p1] : List Value).toArray s 0 0 A) (F0 m pc ls stk)) := ⟨_, rfl⟩
  have lb_46 : ∀ (T : gSt) (x1 : Int32), rj_Model_checkReturn_46 F nf T x1 = some (r0, rl0, T9) → G 46 [(0, .ref (ad 0)), (1, .int x1)] [] T := by
    intro T x1 hR; unfold rj_Model_checkReturn_46 at hR; rw [hG]; intro H locs hP hD hS ls hl
    refine lv_aload_n hx hb d_Model_checkReturn_46 rfl (lv_at hl 0 rfl) ?_
    replace hR := bi_e hR
    obtain ⟨r11, l11, T11, hc11, hR⟩ := hR
    refine gcV_i (rest := []) ⟨hx, hb, hml, hown, hT⟩ (h_Model_bad _ _ _ _ hc11) (cwV 0 hT (gV ml_Model_385 im_Model_bad se_Model_bad ini_Model co_Model_bad) rfl rfl rfl pd_Model_bad ⟨rm_hi, rm_lo (Nat.le_of_ble_eq_true rfl)⟩) hK hP hD hS hA hnw henv (Nat.le_of_ble_eq_true rfl) rfl rfl hl.1 rfl (Nat.le_of_ble_eq_true rfl) d_Model_checkReturn_47 ⟨Nat.le_refl _, Nat.le_refl _⟩ (fun H locs hP hD hS => ?_)
    clear hc11
    refine lv_if_eq (tgt := 54) hx hb d_Model_checkReturn_50 (by decide) (fun c12 => ?_) (fun c12 => ?_)
    · replace hR := if_p c12 hR
      refine lv_aload_n hx hb d_Model_checkReturn_54 rfl (lv_at hl 0 rfl) ?_
      refine rd_Model_126 hx hb hT hown hK hP d_Model_checkReturn_55 ?_
      refine lv_iload_n hx hb d_Model_checkReturn_58 rfl (lv_at hl 1 rfl) ?_
      replace hR := gd_e hR
      obtain ⟨b13, hR⟩ := hR
      refine laM_37 hx hb hK hP b13 d_Model_checkReturn_59 ?_
      refine lv_if_lt (tgt := 99) hx hb d_Model_checkReturn_60 (by decide) (fun c14 => ?_) (fun c14 => ?_)
      · replace hR := if_p c14 hR
        refine lv_aload_n hx hb d_Model_checkReturn_99 rfl (lv_at hl 0 rfl) ?_
        replace hR := bi_e hR
        obtain ⟨r15, l15, T15, hc15, hR⟩ := hR
        refine gcV_v (rest := []) ⟨hx, hb, hml, hown, hT⟩ (h_Model_stop _ _ _ _ hc15) (cwV 0 hT (gV ml_Model_670 im_Model_stop se_Model_stop ini_Model co_Model_stop) rfl rfl rfl pd_Model_stop ⟨rm_hi, rm_lo (Nat.le_of_ble_eq_true rfl)⟩) hK hP hD hS hA hnw henv (Nat.le_of_ble_eq_true rfl) rfl rfl hl.1 rfl (Nat.le_of_ble_eq_true rfl) d_Model_checkReturn_100 ⟨Nat.le_refl _, Nat.le_refl _⟩ (fun H locs hP hD hS => ?_)
        clear hc15
        obtain ⟨-, -, e3⟩ := re_e hR
        subst e3
        exact W.vret hx hb hr (fun t ht hW => ⟨⟨(), rfl, trivial, by rw [ht]; exact hP, va_K.moved hW.alike hK, hD⟩, hS.F ht⟩) hS.2.2 d_Model_checkReturn_103
      · replace hR := if_n c14 hR
        refine lv_aload_n hx hb d_Model_checkReturn_63 rfl (lv_at hl 0 rfl) ?_
        refine lv_aload_n hx hb d_Model_checkReturn_64 rfl (lv_at hl 0 rfl) ?_
        refine rd_Model_126 hx hb hT hown hK hP d_Model_checkReturn_65 ?_
        refine lv_iload_n hx hb d_Model_checkReturn_68 rfl (lv_at hl 1 rfl) ?_
        replace hR := gd_e hR
        obtain ⟨b16, hR⟩ := hR
        refine laM_37 hx hb hK hP b16 d_Model_checkReturn_69 ?_
        replace hR := bi_e hR
        obtain ⟨r17, l17, T17, hc17, hR⟩ := hR
        refine gcV_i (rest := []) ⟨hx, hb, hml, hown, hT⟩ (h_Model_check _ _ _ _ _ hc17) (cwV 1 hT (gV ml_Model_652 im_Model_check se_Model_check ini_Model co_Model_check) rfl rfl rfl pd_Model_check ⟨rm_hi, rm_lo (Nat.le_of_ble_eq_true rfl)⟩) hK hP hD hS hA hnw henv (Nat.le_of_ble_eq_true rfl) rfl rfl hl.1 rfl (Nat.le_of_ble_eq_true rfl) d_Model_checkReturn_70 ⟨Nat.le_refl _, Nat.le_refl _⟩ (fun H locs hP hD hS => ?_)
        clear hc17
        refine lv_istore_n (lv' := [(2, .int r17), (0, .ref (ad 0)), (1, .int x1)]) hx hb d_Model_checkReturn_73 rfl hl (by decide) rfl (fun ls hl => ?_)
        refine lv_aload_n hx hb d_Model_checkReturn_74 rfl (lv_at hl 1 rfl) ?_
        refine lv_iload_n hx hb d_Model_checkReturn_75 rfl (lv_at hl 0 rfl) ?_
        refine lv_aload_n hx hb d_Model_checkReturn_76 rfl (lv_at hl 1 rfl) ?_
        refine rd_Model_57 hx hb hT hown hK hP d_Model_checkReturn_77 ?_
        refine lv_aload_n hx hb d_Model_checkReturn_80 rfl (lv_at hl 1 rfl) ?_
        refine rd_Model_433 hx hb hT hown hK hP d_Model_checkReturn_81 ?_
        replace hR := gd_e hR
        obtain ⟨b18, hR⟩ := hR
        refine laM_14 hx hb hK hP b18 d_Model_checkReturn_84 ?_
        refine lv_aload_n hx hb d_Model_checkReturn_85 rfl (lv_at hl 1 rfl) ?_
        refine rd_Model_123 hx hb hT hown hK hP d_Model_checkReturn_86 ?_
        refine lv_aload_n hx hb d_Model_checkReturn_89 rfl (lv_at hl 1 rfl) ?_
        refine rd_Model_126 hx hb hT hown hK hP d_Model_checkReturn_90 ?_
        refine lv_iload_n hx hb d_Model_checkReturn_93 rfl (lv_at hl 2 rfl) ?_
        replace hR := gd_e hR
        obtain ⟨b19, hR⟩ := hR
        refine laM_37 hx hb hK hP b19 d_Model_checkReturn_94 ?_
        replace hR := gd_e hR
        obtain ⟨b20, hR⟩ := hR
        refine laM_36 hx hb hK hP b20 d_Model_checkReturn_95 ?_
        replace hR := bi_e hR
        obtain ⟨r21, l21, T21, hc21, hR⟩ := hR
        refine gcV_v (rest := []) ⟨hx, hb, hml, hown, hT⟩ (h_Model_fit _ _ _ _ _ _ _ hc21) (cwV 3 hT (gV ml_Model_688 im_Model_fit se_Model_fit ini_Model co_Model_fit) rfl rfl rfl pd_Model_fit ⟨rm_hi, rm_lo (Nat.le_of_ble_eq_true rfl)⟩) hK hP hD hS hA hnw henv (Nat.le_of_ble_eq_true rfl) rfl rfl hl.1 rfl (Nat.le_of_ble_eq_true rfl) d_Model_checkReturn_96 ⟨Nat.le_refl _, Nat.le_refl _⟩ (fun H locs hP hD hS => ?_)
        clear hc21
        refine lv_aload_n hx hb d_Model_checkReturn_99 rfl (lv_at hl 1 rfl) ?_
        replace hR := bi_e hR
        obtain ⟨r22, l22, T22, hc22, hR⟩ := hR
        refine gcV_v (rest := []) ⟨hx, hb, hml, hown, hT⟩ (h_Model_stop _ _ _ _ hc22) (cwV 0 hT (gV ml_Model_670 im_Model_stop se_Model_stop ini_Model co_Model_stop) rfl rfl rfl pd_Model_stop ⟨rm_hi, rm_lo (Nat.le_of_ble_eq_true rfl)⟩) hK hP hD hS hA hnw henv (Nat.le_of_ble_eq_true rfl) rfl rfl hl.1 rfl (Nat.le_of_ble_eq_true rfl) d_Model_checkReturn_100 ⟨Nat.le_refl _, Nat.le_refl _⟩ (fun H locs hP hD hS => ?_)
        clear hc22
        obtain ⟨-, -, e3⟩ := re_e hR
        subst e3
        exact W.vret hx hb hr (fun t ht hW => ⟨⟨(), rfl, trivial, by rw [ht]; exact hP, va_K.moved hW.alike hK, hD⟩, hS.F ht⟩) hS.2.2 d_Model_checkReturn_103
    · replace hR := if_n c12 hR
      obtain ⟨-, -, e3⟩ := re_e hR
      subst e3
      exact W.vret hx hb hr (fun t ht hW => ⟨⟨(), rfl, trivial, by rw [ht]; exact hP, va_K.moved hW.alike hK, hD⟩, hS.F ht⟩) hS.2.2 d_Model_checkReturn_53
  have lb_17 : ∀ (T : gSt) (x1 : Int32) (y0 : Int32), rj_Model_checkReturn_17 F nf T x1 y0 = some (r0, rl0, T9) → G 17 [(0, .ref (ad 0)), (1, .int x1)] [.int y0] T := by
    intro T x1 y0 hR; unfold rj_Model_checkReturn_17 at hR; rw [hG]; intro H locs hP hD hS ls hl
    refine lv_aload_n hx hb d_Model_checkReturn_17 rfl (lv_at hl 0 rfl) ?_
    refine rd_Model_126 hx hb hT hown hK hP d_Model_checkReturn_18 ?_
    refine lv_iload_n hx hb d_Model_checkReturn_21 rfl (lv_at hl 1 rfl) ?_
    replace hR := gd_e hR
    obtain ⟨b3, hR⟩ := hR
    refine laM_37 hx hb hK hP b3 d_Model_checkReturn_22 ?_
    refine lv_if_lt (tgt := 30) hx hb d_Model_checkReturn_23 (by decide) (fun c4 => ?_) (fun c4 => ?_)
    · replace hR := if_p c4 hR
      refine lv_iconst (v := 0) hx hb d_Model_checkReturn_30 (by decide) ?_
      refine lv_icmp_eq (tgt := 46) hx hb d_Model_checkReturn_31 (by decide) (fun c5 => ?_) (fun c5 => ?_)
      · replace hR := if_p c5 hR
        have g := lb_46 T x1 hR
        rw [hG] at g
        exact g _ _ hP hD hS _ (lv_sub hl [0, 1] rfl)
      · replace hR := if_n c5 hR
        refine lv_aload_n hx hb d_Model_checkReturn_34 rfl (lv_at hl 0 rfl) ?_
        refine lv_bipush (v := 8) hx hb d_Model_checkReturn_35 (by decide) ?_
        refine lv_aload_n hx hb d_Model_checkReturn_37 rfl (lv_at hl 0 rfl) ?_
        refine rd_Model_123 hx hb hT hown hK hP d_Model_checkReturn_38 ?_
        refine lv_iload_n hx hb d_Model_checkReturn_41 rfl (lv_at hl 1 rfl) ?_
        replace hR := gd_e hR
        obtain ⟨b6, hR⟩ := hR
        refine laM_36 hx hb hK hP b6 d_Model_checkReturn_42 ?_
        replace hR := bi_e hR
        obtain ⟨r7, l7, T7, hc7, hR⟩ := hR
        refine gcV_v (rest := []) ⟨hx, hb, hml, hown, hT⟩ (h_Model_fail _ _ _ _ _ _ hc7) (cwV 2 hT (gV ml_Model_381 im_Model_fail se_Model_fail ini_Model co_Model_fail) rfl rfl rfl pd_Model_fail ⟨rm_hi, rm_lo (Nat.le_of_ble_eq_true rfl)⟩) hK hP hD hS hA hnw henv (Nat.le_of_ble_eq_true rfl) rfl rfl hl.1 rfl (Nat.le_of_ble_eq_true rfl) d_Model_checkReturn_43 ⟨Nat.le_refl _, Nat.le_refl _⟩ (fun H locs hP hD hS => ?_)
        clear hc7
        have g := lb_46 T7 x1 hR
        rw [hG] at g
        exact g _ _ hP hD hS _ (lv_sub hl [0, 1] rfl)
    · replace hR := if_n c4 hR
      refine lv_iconst (v := 1) hx hb d_Model_checkReturn_26 (by decide) ?_
      refine lv_goto (tgt := 31) hx hb d_Model_checkReturn_27 (by decide) ?_
      refine lv_icmp_eq (tgt := 46) hx hb d_Model_checkReturn_31 (by decide) (fun c8 => ?_) (fun c8 => ?_)
      · replace hR := if_p c8 hR
        have g := lb_46 T x1 hR
        rw [hG] at g
        exact g _ _ hP hD hS _ (lv_sub hl [0, 1] rfl)
      · replace hR := if_n c8 hR
        refine lv_aload_n hx hb d_Model_checkReturn_34 rfl (lv_at hl 0 rfl) ?_
        refine lv_bipush (v := 8) hx hb d_Model_checkReturn_35 (by decide) ?_
        refine lv_aload_n hx hb d_Model_checkReturn_37 rfl (lv_at hl 0 rfl) ?_
        refine rd_Model_123 hx hb hT hown hK hP d_Model_checkReturn_38 ?_
        refine lv_iload_n hx hb d_Model_checkReturn_41 rfl (lv_at hl 1 rfl) ?_
        replace hR := gd_e hR
        obtain ⟨b9, hR⟩ := hR
        refine laM_36 hx hb hK hP b9 d_Model_checkReturn_42 ?_
        replace hR := bi_e hR
        obtain ⟨r10, l10, T10, hc10, hR⟩ := hR
        refine gcV_v (rest := []) ⟨hx, hb, hml, hown, hT⟩ (h_Model_fail _ _ _ _ _ _ hc10) (cwV 2 hT (gV ml_Model_381 im_Model_fail se_Model_fail ini_Model co_Model_fail) rfl rfl rfl pd_Model_fail ⟨rm_hi, rm_lo (Nat.le_of_ble_eq_true rfl)⟩) hK hP hD hS hA hnw henv (Nat.le_of_ble_eq_true rfl) rfl rfl hl.1 rfl (Nat.le_of_ble_eq_true rfl) d_Model_checkReturn_43 ⟨Nat.le_refl _, Nat.le_refl _⟩ (fun H locs hP hD hS => ?_)
        clear hc10
        have g := lb_46 T10 x1 hR
        rw [hG] at g
        exact g _ _ hP hD hS _ (lv_sub hl [0, 1] rfl)
  unfold rb_Model_checkReturn at hR
  refine lv_aload_n hx hb d_Model_checkReturn_0 rfl (lv_at hl 0 rfl) ?_
  refine rd_Model_54 hx hb hT hown hK hP d_Model_checkReturn_1 ?_
  refine lv_aload_n hx hb d_Model_checkReturn_4 rfl (lv_at hl 0 rfl) ?_
  refine rd_Model_433 hx hb hT hown hK hP d_Model_checkReturn_5 ?_
  replace hR := gd_e hR
  obtain ⟨b1, hR⟩ := hR
  refine laM_13 hx hb hK hP b1 d_Model_checkReturn_8 ?_
  refine lv_if_lt (tgt := 16) hx hb d_Model_checkReturn_9 (by decide) (fun c2 => ?_) (fun c2 => ?_)
  · replace hR := if_p c2 hR
    refine lv_iconst (v := 0) hx hb d_Model_checkReturn_16 (by decide) ?_
    have g := lb_17 T0 p1 (0 : Int32) hR
    rw [hG] at g
    exact g _ _ hP hD hS _ (lv_sub hl [0, 1] rfl)
  · replace hR := if_n c2 hR
    refine lv_iconst (v := 1) hx hb d_Model_checkReturn_12 (by decide) ?_
    refine lv_goto (tgt := 17) hx hb d_Model_checkReturn_13 (by decide) ?_
    have g := lb_17 T0 p1 (1 : Int32) hR
    rw [hG] at g
    exact g _ _ hP hD hS _ (lv_sub hl [0, 1] rfl)
set_option maxHeartbeats 4000000 in
set_option maxRecDepth 100000 in
theorem sp_Model_checkRegion (l : Launch) (dC : Nat → ClassId) (dI : Nat → Nat → Nat) (ea ev ad : Nat → Nat) (km : Nat → ClassId) (F : gF) (nf d : Nat) (h_Model_findRegion : mt_Model_findRegion l dC dI ea ev ad km F d) (h_Model_fail : mt_Model_fail l dC dI ea ev ad km F d) (h_Model_bad : mt_Model_bad l dC dI ea ev ad km F d) (h_Model_checkBlock : mt_Model_checkBlock l dC dI ea ev ad km F d) (T0 : gSt) (p1 : Int32) (r0 : Int32) (rl0 : Int64) (T9 : gSt) (hR : rb_Model_checkRegion F nf T0 p1 = some (r0, rl0, T9)) : GMv l dC dI LM ad km ea ev y_Model_checkRegion w_Model_checkRegion (rmD (d + 1)) [.ref (ad 0), .int p1] T0 T9 := by
  intro sz
  refine Met.ofW (cc := b_Model_checkRegion) (maxL := 5) (ret := none) (by decide) rfl ?_
  intro p e s m args below meth c s₁ B hml hv
  obtain ⟨rfl, hsz, hP, hK, hD0, hnw, henv⟩ := hv
  have hx := B.exec
  have hb := B.bytes
  have hr := B.returns
  have hT : ∀ w ∈ lw_good, w.before _ s = true := fun w h => atoms_spec (ws := w_Model_checkRegion) B.pre w (List.mem_cons_of_mem _ h)
  have hown : s.vm.findClass R_Model = some m.cls := findClass_of_methodNamed B.named
  subst hsz
  have hD := hD0.self (sz := s.heap.size)
  clear hD0
  generalize hAe : va_A (gW LM ad km T0) s.heap.size = A at hD henv ⊢
  have hA : ∀ q : Nat, s.heap.size ≤ q → A q := fun q h => by rw [← hAe]; exact Or.inr h
  have hS : va_S A s.heap s.heap [] := va_S.rf
  have hl := lv_entry ([.ref (ad 0), .int p1]) (n := 5) (Nat.le_of_ble_eq_true rfl)
  rw [lg_entry_eq]
  generalize (lg_sl ([.ref (ad 0), .int p1]) ++ List.replicate (5 - (lg_sl ([.ref (ad 0), .int p1])).length) Slot.unset).toArray = ls at hl ⊢
  have hl : lv_has ls 5 [(0, .ref (ad 0)), (1, .int p1)] := hl
  obtain ⟨G, hG⟩ : ∃ G : Nat → List (Nat × Value) → List Value → gSt → Prop, G = (fun pc lv stk T => ∀ (H : Heap) (locs : List Loc), va_P (dC, dI) cls_all (gW LM ad km T) H → va_D A (gW LM ad km T) → va_S A s.heap H locs → ∀ (ls : Array Slot), lv_has ls 5 lv → W p l e (headSpec w_Model_checkRegion (rmD (d + 1))).room s m ([.ref (ad 0), .int p1] : List Value).toArray below meth c H locs 0 0 (MQ below (va_Qv (fun (_ : Unit) => True) (fun _ t => gPost dC dI LM ad km T9 A t) A) ([.ref (ad 0), .int p1] : List Value).toArray s 0 0 A) (F0 m pc ls stk)) := ⟨_, rfl⟩
  have lb_73 : ∀ (n : Nat) (T : gSt) (x1 : Int32) (x2 : Int32) (x3 : Int32) (x4 : Int32), rl_Model_checkRegion_73 F nf n T x1 x2 x3 x4 = some (r0, rl0, T9) → G 73 [(0, .ref (ad 0)), (1, .int x1), (2, .int x2), (3, .int x3), (4, .int x4)] [] T := by
    intro n
    induction n with
    | zero => intro T x1 x2 x3 x4 hR; rw [rl_Model_checkRegion_73] at hR; cases hR
    | succ n ih =>
      intro T x1 x2 x3 x4 hR; rw [rl_Model_checkRegion_73] at hR; rw [hG]; intro H locs hP hD hS ls hl
      refine lv_iload hx hb d_Model_checkRegion_73 (lv_at hl 4 rfl) ?_
      refine lv_aload_n hx hb d_Model_checkRegion_75 rfl (lv_at hl 0 rfl) ?_
      refine rd_Model_634 hx hb hT hown hK hP d_Model_checkRegion_76 ?_
      refine lv_icmp_ge (tgt := 111) hx hb d_Model_checkRegion_79 (by decide) (fun c14 => ?_) (fun c14 => ?_)
      · replace hR := if_p c14 hR
        refine lv_aload_n hx hb d_Model_checkRegion_111 rfl (lv_at hl 0 rfl) ?_
        refine rd_Model_171 hx hb hT hown hK hP d_Model_checkRegion_112 ?_
        refine lv_aload_n hx hb d_Model_checkRegion_115 rfl (lv_at hl 0 rfl) ?_
        refine rd_Model_568 hx hb hT hown hK hP d_Model_checkRegion_116 ?_
        refine lv_aload_n hx hb d_Model_checkRegion_119 rfl (lv_at hl 0 rfl) ?_
        refine rd_Model_111 hx hb hT hown hK hP d_Model_checkRegion_120 ?_
        refine lv_iload_n hx hb d_Model_checkRegion_123 rfl (lv_at hl 2 rfl) ?_
        replace hR := gd_e hR
        obtain ⟨b15, hR⟩ := hR
        refine laM_32 hx hb hK hP b15 d_Model_checkRegion_124 ?_
        replace hR := gd_e hR
        obtain ⟨b16, hR⟩ := hR
        refine saM_52 hx hb hK hP hD hS b16 d_Model_checkRegion_125 (fun T16 eT H locs hP hD hS => ?_)
        replace hR := stK_e eT hR
        clear eT
        refine lv_aload_n hx hb d_Model_checkRegion_126 rfl (lv_at hl 0 rfl) ?_
        refine rd_Model_174 hx hb hT hown hK hP d_Model_checkRegion_127 ?_
        refine lv_aload_n hx hb d_Model_checkRegion_130 rfl (lv_at hl 0 rfl) ?_
        refine rd_Model_568 hx hb hT hown hK hP d_Model_checkRegion_131 ?_
        refine lv_iload_n hx hb d_Model_checkRegion_134 rfl (lv_at hl 3 rfl) ?_
        replace hR := gd_e hR
        obtain ⟨b17, hR⟩ := hR
        refine saM_53 hx hb hK hP hD hS b17 d_Model_checkRegion_135 (fun T17 eT H locs hP hD hS => ?_)
        replace hR := stK_e eT hR
        clear eT
        refine lv_aload_n hx hb d_Model_checkRegion_136 rfl (lv_at hl 0 rfl) ?_
        refine lv_dup hx hb d_Model_checkRegion_137 rfl ?_
        refine rd_Model_568 hx hb hT hown hK hP d_Model_checkRegion_138 ?_
        refine lv_iconst (v := 1) hx hb d_Model_checkRegion_141 (by decide) ?_
        refine lv_iadd hx hb d_Model_checkRegion_142 ?_
        refine wr_Model_568 hx hb hT hown hK hP hD hS d_Model_checkRegion_143 (fun T18 eT H locs hP hD hS => ?_)
        replace hR := stK_e eT hR
        clear eT
        refine lv_aload_n hx hb d_Model_checkRegion_146 rfl (lv_at hl 0 rfl) ?_
        refine rd_Model_189 hx hb hT hown hK hP d_Model_checkRegion_147 ?_
        refine lv_aload_n hx hb d_Model_checkRegion_150 rfl (lv_at hl 0 rfl) ?_
        refine rd_Model_634 hx hb hT hown hK hP d_Model_checkRegion_151 ?_
        refine lv_iload_n hx hb d_Model_checkRegion_154 rfl (lv_at hl 3 rfl) ?_
        replace hR := gd_e hR
        obtain ⟨b19, hR⟩ := hR
        refine saM_58 hx hb hK hP hD hS b19 d_Model_checkRegion_155 (fun T19 eT H locs hP hD hS => ?_)
        replace hR := stK_e eT hR
        clear eT
        refine lv_aload_n hx hb d_Model_checkRegion_156 rfl (lv_at hl 0 rfl) ?_
        refine lv_dup hx hb d_Model_checkRegion_157 rfl ?_
        refine rd_Model_634 hx hb hT hown hK hP d_Model_checkRegion_158 ?_
        refine lv_iconst (v := 1) hx hb d_Model_checkRegion_161 (by decide) ?_
        refine lv_iadd hx hb d_Model_checkRegion_162 ?_
        refine wr_Model_634 hx hb hT hown hK hP hD hS d_Model_checkRegion_163 (fun T20 eT H locs hP hD hS => ?_)
        replace hR := stK_e eT hR
        clear eT
        refine lv_aload_n hx hb d_Model_checkRegion_166 rfl (lv_at hl 0 rfl) ?_
        refine lv_dup hx hb d_Model_checkRegion_167 rfl ?_
        refine rd_Model_575 hx hb hT hown hK hP d_Model_checkRegion_168 ?_
        refine lv_iconst (v := 1) hx hb d_Model_checkRegion_171 (by decide) ?_
        refine lv_iload_n hx hb d_Model_checkRegion_172 rfl (lv_at hl 3 rfl) ?_
        refine lv_ishl hx hb d_Model_checkRegion_173 ?_
        refine lv_ior hx hb d_Model_checkRegion_174 ?_
        refine wr_Model_575 hx hb hT hown hK hP hD hS d_Model_checkRegion_175 (fun T21 eT H locs hP hD hS => ?_)
        replace hR := stK_e eT hR
        clear eT
        refine lv_aload_n hx hb d_Model_checkRegion_178 rfl (lv_at hl 0 rfl) ?_
        refine lv_aload_n hx hb d_Model_checkRegion_179 rfl (lv_at hl 0 rfl) ?_
        refine rd_Model_126 hx hb hT hown hK hP d_Model_checkRegion_180 ?_
        refine lv_iload_n hx hb d_Model_checkRegion_183 rfl (lv_at hl 1 rfl) ?_
        replace hR := gd_e hR
        obtain ⟨b22, hR⟩ := hR
        refine laM_37 hx hb hK hP b22 d_Model_checkRegion_184 ?_
        replace hR := bi_e hR
        obtain ⟨r23, l23, T23, hc23, hR⟩ := hR
        refine gcV_v (rest := []) ⟨hx, hb, hml, hown, hT⟩ (h_Model_checkBlock _ _ _ _ _ hc23) (cwV 1 hT (gV ml_Model_646 im_Model_checkBlock se_Model_checkBlock ini_Model co_Model_checkBlock) rfl rfl rfl pd_Model_checkBlock ⟨rm_hi, rm_lo (Nat.le_of_ble_eq_true rfl)⟩) hK hP hD hS hA hnw henv (Nat.le_of_ble_eq_true rfl) rfl rfl hl.1 rfl (Nat.le_of_ble_eq_true rfl) d_Model_checkRegion_185 ⟨Nat.le_refl _, Nat.le_refl _⟩ (fun H locs hP hD hS => ?_)
        clear hc23
        refine lv_aload_n hx hb d_Model_checkRegion_188 rfl (lv_at hl 0 rfl) ?_
        refine lv_dup hx hb d_Model_checkRegion_189 rfl ?_
        refine rd_Model_634 hx hb hT hown hK hP d_Model_checkRegion_190 ?_
        refine lv_iconst (v := 1) hx hb d_Model_checkRegion_193 (by decide) ?_
        refine lv_isub hx hb d_Model_checkRegion_194 ?_
        refine wr_Model_634 hx hb hT hown hK hP hD hS d_Model_checkRegion_195 (fun T24 eT H locs hP hD hS => ?_)
        replace hR := stK_e eT hR
        clear eT
        refine lv_aload_n hx hb d_Model_checkRegion_198 rfl (lv_at hl 0 rfl) ?_
        refine lv_dup hx hb d_Model_checkRegion_199 rfl ?_
        refine rd_Model_568 hx hb hT hown hK hP d_Model_checkRegion_200 ?_
        refine lv_iconst (v := 1) hx hb d_Model_checkRegion_203 (by decide) ?_
        refine lv_isub hx hb d_Model_checkRegion_204 ?_
        refine wr_Model_568 hx hb hT hown hK hP hD hS d_Model_checkRegion_205 (fun T25 eT H locs hP hD hS => ?_)
        replace hR := stK_e eT hR
        clear eT
        refine lv_aload_n hx hb d_Model_checkRegion_208 rfl (lv_at hl 0 rfl) ?_
        refine lv_dup hx hb d_Model_checkRegion_209 rfl ?_
        refine rd_Model_575 hx hb hT hown hK hP d_Model_checkRegion_210 ?_
        refine lv_iconst (v := 1) hx hb d_Model_checkRegion_213 (by decide) ?_
        refine lv_iload_n hx hb d_Model_checkRegion_214 rfl (lv_at hl 3 rfl) ?_
        refine lv_ishl hx hb d_Model_checkRegion_215 ?_
        refine lv_iconst (v := (-1)) hx hb d_Model_checkRegion_216 (by decide) ?_
        refine lv_ixor hx hb d_Model_checkRegion_217 ?_
        refine lv_iand hx hb d_Model_checkRegion_218 ?_
        refine wr_Model_575 hx hb hT hown hK hP hD hS d_Model_checkRegion_219 (fun T26 eT H locs hP hD hS => ?_)
        replace hR := stK_e eT hR
        clear eT
        obtain ⟨-, -, e3⟩ := re_e hR
        subst e3
        exact W.vret hx hb hr (fun t ht hW => ⟨⟨(), rfl, trivial, by rw [ht]; exact hP, va_K.moved hW.alike hK, hD⟩, hS.F ht⟩) hS.2.2 d_Model_checkRegion_222
      · replace hR := if_n c14 hR
        refine lv_aload_n hx hb d_Model_checkRegion_82 rfl (lv_at hl 0 rfl) ?_
        refine rd_Model_189 hx hb hT hown hK hP d_Model_checkRegion_83 ?_
        refine lv_iload hx hb d_Model_checkRegion_86 (lv_at hl 4 rfl) ?_
        replace hR := gd_e hR
        obtain ⟨b27, hR⟩ := hR
        refine laM_58 hx hb hK hP b27 d_Model_checkRegion_88 ?_
        refine lv_if_le (tgt := 105) hx hb d_Model_checkRegion_89 (by decide) (fun c28 => ?_) (fun c28 => ?_)
        · replace hR := if_p c28 hR
          obtain ⟨z29, e29⟩ : ∃ y : Int32, y = x4 + (1 : Int32) := ⟨_, rfl⟩
          replace hR := vK_e e29 hR
          refine lv_iinc (v := z29) (lv' := [(4, .int z29), (0, .ref (ad 0)), (1, .int x1), (2, .int x2), (3, .int x3)]) hx hb d_Model_checkRegion_105 hl (k := 4) rfl (by rw [e29]; rfl) (by decide) rfl (fun ls hl => ?_)
          refine lv_goto (tgt := 73) hx hb d_Model_checkRegion_108 (by decide) ?_
          have g := ih T x1 x2 x3 z29 hR
          rw [hG] at g
          exact g _ _ hP hD hS _ (lv_sub hl [1, 2, 3, 4, 0] rfl)
        · replace hR := if_n c28 hR
          refine lv_aload_n hx hb d_Model_checkRegion_92 rfl (lv_at hl 0 rfl) ?_
          refine rd_Model_177 hx hb hT hown hK hP d_Model_checkRegion_93 ?_
          refine lv_iload_n hx hb d_Model_checkRegion_96 rfl (lv_at hl 3 rfl) ?_
          refine lv_aload_n hx hb d_Model_checkRegion_97 rfl (lv_at hl 0 rfl) ?_
          refine rd_Model_189 hx hb hT hown hK hP d_Model_checkRegion_98 ?_
          refine lv_iload hx hb d_Model_checkRegion_101 (lv_at hl 4 rfl) ?_
          replace hR := gd_e hR
          obtain ⟨b30, hR⟩ := hR
          refine laM_58 hx hb hK hP b30 d_Model_checkRegion_103 ?_
          replace hR := gd_e hR
          obtain ⟨b31, hR⟩ := hR
          refine saM_54 hx hb hK hP hD hS b31 d_Model_checkRegion_104 (fun T31 eT H locs hP hD hS => ?_)
          replace hR := stK_e eT hR
          clear eT
          obtain ⟨z32, e32⟩ : ∃ y : Int32, y = x4 + (1 : Int32) := ⟨_, rfl⟩
          replace hR := vK_e e32 hR
          refine lv_iinc (v := z32) (lv' := [(4, .int z32), (0, .ref (ad 0)), (1, .int x1), (2, .int x2), (3, .int x3)]) hx hb d_Model_checkRegion_105 hl (k := 4) rfl (by rw [e32]; rfl) (by decide) rfl (fun ls hl => ?_)
          refine lv_goto (tgt := 73) hx hb d_Model_checkRegion_108 (by decide) ?_
          have g := ih T31 x1 x2 x3 z32 hR
          rw [hG] at g
          exact g _ _ hP hD hS _ (lv_sub hl [1, 2, 3, 4, 0] rfl)
  have lb_31 : ∀ (T : gSt) (x1 : Int32) (x2 : Int32), rj_Model_checkRegion_31 F nf T x1 x2 = some (r0, rl0, T9) → G 31 [(0, .ref (ad 0)), (1, .int x1), (2, .int x2)] [] T := by
    intro T x1 x2 hR; unfold rj_Model_checkRegion_31 at hR; rw [hG]; intro H locs hP hD hS ls hl
    refine lv_aload_n hx hb d_Model_checkRegion_31 rfl (lv_at hl 0 rfl) ?_
    replace hR := bi_e hR
    obtain ⟨r8, l8, T8, hc8, hR⟩ := hR
    refine gcV_i (rest := []) ⟨hx, hb, hml, hown, hT⟩ (h_Model_bad _ _ _ _ hc8) (cwV 0 hT (gV ml_Model_385 im_Model_bad se_Model_bad ini_Model co_Model_bad) rfl rfl rfl pd_Model_bad ⟨rm_hi, rm_lo (Nat.le_of_ble_eq_true rfl)⟩) hK hP hD hS hA hnw henv (Nat.le_of_ble_eq_true rfl) rfl rfl hl.1 rfl (Nat.le_of_ble_eq_true rfl) d_Model_checkRegion_32 ⟨Nat.le_refl _, Nat.le_refl _⟩ (fun H locs hP hD hS => ?_)
    clear hc8
    refine lv_if_eq (tgt := 39) hx hb d_Model_checkRegion_35 (by decide) (fun c9 => ?_) (fun c9 => ?_)
    · replace hR := if_p c9 hR
      refine lv_iconst (v := 4) hx hb d_Model_checkRegion_39 (by decide) ?_
      refine lv_aload_n hx hb d_Model_checkRegion_40 rfl (lv_at hl 0 rfl) ?_
      refine rd_Model_637 hx hb hT hown hK hP d_Model_checkRegion_41 ?_
      refine lv_iadd hx hb d_Model_checkRegion_44 ?_
      refine lv_topi (fun z10 e10 => ?_)
      replace hR := vK_e e10 hR
      refine lv_istore_n (lv' := [(3, .int z10), (0, .ref (ad 0)), (1, .int x1), (2, .int x2)]) hx hb d_Model_checkRegion_45 rfl hl (by decide) rfl (fun ls hl => ?_)
      refine lv_aload_n hx hb d_Model_checkRegion_46 rfl (lv_at hl 1 rfl) ?_
      refine lv_dup hx hb d_Model_checkRegion_47 rfl ?_
      refine rd_Model_637 hx hb hT hown hK hP d_Model_checkRegion_48 ?_
      refine lv_iconst (v := 1) hx hb d_Model_checkRegion_51 (by decide) ?_
      refine lv_iadd hx hb d_Model_checkRegion_52 ?_
      refine wr_Model_637 hx hb hT hown hK hP hD hS d_Model_checkRegion_53 (fun T11 eT H locs hP hD hS => ?_)
      replace hR := stK_e eT hR
      clear eT
      refine lv_aload_n hx hb d_Model_checkRegion_56 rfl (lv_at hl 1 rfl) ?_
      refine rd_Model_117 hx hb hT hown hK hP d_Model_checkRegion_57 ?_
      refine lv_iload_n hx hb d_Model_checkRegion_60 rfl (lv_at hl 3 rfl) ?_
      refine lv_iload_n hx hb d_Model_checkRegion_61 rfl (lv_at hl 0 rfl) ?_
      replace hR := gd_e hR
      obtain ⟨b12, hR⟩ := hR
      refine saM_34 hx hb hK hP hD hS b12 d_Model_checkRegion_62 (fun T12 eT H locs hP hD hS => ?_)
      replace hR := stK_e eT hR
      clear eT
      refine lv_aload_n hx hb d_Model_checkRegion_63 rfl (lv_at hl 1 rfl) ?_
      refine rd_Model_177 hx hb hT hown hK hP d_Model_checkRegion_64 ?_
      refine lv_iload_n hx hb d_Model_checkRegion_67 rfl (lv_at hl 0 rfl) ?_
      refine lv_iconst (v := 0) hx hb d_Model_checkRegion_68 (by decide) ?_
      replace hR := gd_e hR
      obtain ⟨b13, hR⟩ := hR
      refine saM_54 hx hb hK hP hD hS b13 d_Model_checkRegion_69 (fun T13 eT H locs hP hD hS => ?_)
      replace hR := stK_e eT hR
      clear eT
      refine lv_iconst (v := 0) hx hb d_Model_checkRegion_70 (by decide) ?_
      refine lv_istore (lv' := [(4, .int (0 : Int32)), (3, .int z10), (0, .ref (ad 0)), (1, .int x1), (2, .int x2)]) hx hb d_Model_checkRegion_71 hl (by decide) rfl (fun ls hl => ?_)
      have g := lb_73 nf T13 x1 x2 z10 (0 : Int32) hR
      rw [hG] at g
      exact g _ _ hP hD hS _ (lv_sub hl [2, 3, 4, 1, 0] rfl)
    · replace hR := if_n c9 hR
      obtain ⟨-, -, e3⟩ := re_e hR
      subst e3
      exact W.vret hx hb hr (fun t ht hW => ⟨⟨(), rfl, trivial, by rw [ht]; exact hP, va_K.moved hW.alike hK, hD⟩, hS.F ht⟩) hS.2.2 d_Model_checkRegion_38
  unfold rb_Model_checkRegion at hR
  refine lv_aload_n hx hb d_Model_checkRegion_0 rfl (lv_at hl 0 rfl) ?_
  refine rd_Model_144 hx hb hT hown hK hP d_Model_checkRegion_1 ?_
  refine lv_iload_n hx hb d_Model_checkRegion_4 rfl (lv_at hl 1 rfl) ?_
  replace hR := gd_e hR
  obtain ⟨b1, hR⟩ := hR
  refine laM_43 hx hb hK hP b1 d_Model_checkRegion_5 ?_
  refine lv_topi (fun z2 e2 => ?_)
  replace hR := vK_e e2 hR
  refine lv_istore_n (lv' := [(2, .int z2), (0, .ref (ad 0)), (1, .int p1)]) hx hb d_Model_checkRegion_6 rfl hl (by decide) rfl (fun ls hl => ?_)
  refine lv_aload_n hx hb d_Model_checkRegion_7 rfl (lv_at hl 1 rfl) ?_
  refine lv_aload_n hx hb d_Model_checkRegion_8 rfl (lv_at hl 1 rfl) ?_
  refine rd_Model_111 hx hb hT hown hK hP d_Model_checkRegion_9 ?_
  refine lv_iload_n hx hb d_Model_checkRegion_12 rfl (lv_at hl 0 rfl) ?_
  replace hR := gd_e hR
  obtain ⟨b3, hR⟩ := hR
  refine laM_32 hx hb hK hP b3 d_Model_checkRegion_13 ?_
  replace hR := bi_e hR
  obtain ⟨r4, l4, T4, hc4, hR⟩ := hR
  refine gcV_i (rest := []) ⟨hx, hb, hml, hown, hT⟩ (h_Model_findRegion _ _ _ _ _ hc4) (cwV 1 hT (gV ml_Model_571 im_Model_findRegion se_Model_findRegion ini_Model co_Model_findRegion) rfl rfl rfl pd_Model_findRegion ⟨rm_hi, rm_lo (Nat.le_of_ble_eq_true rfl)⟩) hK hP hD hS hA hnw henv (Nat.le_of_ble_eq_true rfl) rfl rfl hl.1 rfl (Nat.le_of_ble_eq_true rfl) d_Model_checkRegion_14 ⟨Nat.le_refl _, Nat.le_refl _⟩ (fun H locs hP hD hS => ?_)
  clear hc4
  refine lv_if_lt (tgt := 31) hx hb d_Model_checkRegion_17 (by decide) (fun c5 => ?_) (fun c5 => ?_)
  · replace hR := if_p c5 hR
    have g := lb_31 T4 p1 z2 hR
    rw [hG] at g
    exact g _ _ hP hD hS _ (lv_sub hl [1, 2, 0] rfl)
  · replace hR := if_n c5 hR
    refine lv_aload_n hx hb d_Model_checkRegion_20 rfl (lv_at hl 1 rfl) ?_
    refine lv_iconst (v := 2) hx hb d_Model_checkRegion_21 (by decide) ?_
    refine lv_aload_n hx hb d_Model_checkRegion_22 rfl (lv_at hl 1 rfl) ?_
    refine rd_Model_114 hx hb hT hown hK hP d_Model_checkRegion_23 ?_
    refine lv_iload_n hx hb d_Model_checkRegion_26 rfl (lv_at hl 0 rfl) ?_
    replace hR := gd_e hR
    obtain ⟨b6, hR⟩ := hR
    refine laM_33 hx hb hK hP b6 d_Model_checkRegion_27 ?_
    replace hR := bi_e hR
    obtain ⟨r7, l7, T7, hc7, hR⟩ := hR
    refine gcV_v (rest := []) ⟨hx, hb, hml, hown, hT⟩ (h_Model_fail _ _ _ _ _ _ hc7) (cwV 2 hT (gV ml_Model_381 im_Model_fail se_Model_fail ini_Model co_Model_fail) rfl rfl rfl pd_Model_fail ⟨rm_hi, rm_lo (Nat.le_of_ble_eq_true rfl)⟩) hK hP hD hS hA hnw henv (Nat.le_of_ble_eq_true rfl) rfl rfl hl.1 rfl (Nat.le_of_ble_eq_true rfl) d_Model_checkRegion_28 ⟨Nat.le_refl _, Nat.le_refl _⟩ (fun H locs hP hD hS => ?_)
    clear hc7
    have g := lb_31 T7 p1 z2 hR
    rw [hG] at g
    exact g _ _ hP hD hS _ (lv_sub hl [1, 2, 0] rfl)
set_option maxHeartbeats 4000000 in
set_option maxRecDepth 100000 in
theorem sp_Model_checkClose (l : Launch) (dC : Nat → ClassId) (dI : Nat → Nat → Nat) (ea ev ad : Nat → Nat) (km : Nat → ClassId) (F : gF) (nf d : Nat) (h_Model_regionAt : mt_Model_regionAt l dC dI ea ev ad km F d) (h_Model_bad : mt_Model_bad l dC dI ea ev ad km F d) (h_Model_fail : mt_Model_fail l dC dI ea ev ad km F d) (h_Model_isLive : mt_Model_isLive l dC dI ea ev ad km F d) (T0 : gSt) (p1 : Int32) (r0 : Int32) (rl0 : Int64) (T9 : gSt) (hR : rb_Model_checkClose F nf T0 p1 = some (r0, rl0, T9)) : GMv l dC dI LM ad km ea ev y_Model_checkClose w_Model_checkClose (rmD (d + 1)) [.ref (ad 0), .int p1] T0 T9 := by
  intro sz
  refine Met.ofW (cc := b_Model_checkClose) (maxL := 4) (ret := none) (by decide) rfl ?_
  intro p e s m args below meth c s₁ B hml hv
  obtain ⟨rfl, hsz, hP, hK, hD0, hnw, henv⟩ := hv
  have hx := B.exec
  have hb := B.bytes
  have hr := B.returns
  have hT : ∀ w ∈ lw_good, w.before _ s = true := fun w h => atoms_spec (ws := w_Model_checkClose) B.pre w (List.mem_cons_of_mem _ h)
  have hown : s.vm.findClass R_Model = some m.cls := findClass_of_methodNamed B.named
  subst hsz
  have hD := hD0.self (sz := s.heap.size)
  clear hD0
  generalize hAe : va_A (gW LM ad km T0) s.heap.size = A at hD henv ⊢
  have hA : ∀ q : Nat, s.heap.size ≤ q → A q := fun q h => by rw [← hAe]; exact Or.inr h
  have hS : va_S A s.heap s.heap [] := va_S.rf
  have hl := lv_entry ([.ref (ad 0), .int p1]) (n := 4) (Nat.le_of_ble_eq_true rfl)
  rw [lg_entry_eq]
  generalize (lg_sl ([.ref (ad 0), .int p1]) ++ List.replicate (4 - (lg_sl ([.ref (ad 0), .int p1])).length) Slot.unset).toArray = ls at hl ⊢
  have hl : lv_has ls 4 [(0, .ref (ad 0)), (1, .int p1)] := hl
  obtain ⟨G, hG⟩ : ∃ G : Nat → List (Nat × Value) → List Value → gSt → Prop, G = (fun pc lv stk T => ∀ (H : Heap) (locs : List Loc), va_P (dC, dI) cls_all (gW LM ad km T) H → va_D A (gW LM ad km T) → va_S A s.heap H locs → ∀ (ls : Array Slot), lv_has ls 4 lv → W p l e (headSpec w_Model_checkClose (rmD (d + 1))).room s m ([.ref (ad 0), .int p1] : List Value).toArray below meth c H locs 0 0 (MQ below (va_Qv (fun (_ : Unit) => True) (fun _ t => gPost dC dI LM ad km T9 A t) A) ([.ref (ad 0), .int p1] : List Value).toArray s 0 0 A) (F0 m pc ls stk)) := ⟨_, rfl⟩
  have lb_52 : ∀ (n : Nat) (T : gSt) (x1 : Int32) (x2 : Int32) (x3 : Int32), rl_Model_checkClose_52 F nf n T x1 x2 x3 = some (r0, rl0, T9) → G 52 [(0, .ref (ad 0)), (1, .int x1), (2, .int x2), (3, .int x3)] [] T := by
    intro n
    induction n with
    | zero => intro T x1 x2 x3 hR; rw [rl_Model_checkClose_52] at hR; cases hR
    | succ n ih =>
      intro T x1 x2 x3 hR; rw [rl_Model_checkClose_52] at hR; rw [hG]; intro H locs hP hD hS ls hl
      refine lv_iload_n hx hb d_Model_checkClose_52 rfl (lv_at hl 3 rfl) ?_
      refine lv_if_lt (tgt := 106) hx hb d_Model_checkClose_53 (by decide) (fun c13 => ?_) (fun c13 => ?_)
      · replace hR := if_p c13 hR
        refine lv_aload_n hx hb d_Model_checkClose_106 rfl (lv_at hl 0 rfl) ?_
        refine lv_dup hx hb d_Model_checkClose_107 rfl ?_
        refine rd_Model_575 hx hb hT hown hK hP d_Model_checkClose_108 ?_
        refine lv_iconst (v := 1) hx hb d_Model_checkClose_111 (by decide) ?_
        refine lv_iload_n hx hb d_Model_checkClose_112 rfl (lv_at hl 2 rfl) ?_
        refine lv_ishl hx hb d_Model_checkClose_113 ?_
        refine lv_iconst (v := (-1)) hx hb d_Model_checkClose_114 (by decide) ?_
        refine lv_ixor hx hb d_Model_checkClose_115 ?_
        refine lv_iand hx hb d_Model_checkClose_116 ?_
        refine wr_Model_575 hx hb hT hown hK hP hD hS d_Model_checkClose_117 (fun T14 eT H locs hP hD hS => ?_)
        replace hR := stK_e eT hR
        clear eT
        obtain ⟨-, -, e3⟩ := re_e hR
        subst e3
        exact W.vret hx hb hr (fun t ht hW => ⟨⟨(), rfl, trivial, by rw [ht]; exact hP, va_K.moved hW.alike hK, hD⟩, hS.F ht⟩) hS.2.2 d_Model_checkClose_120
      · replace hR := if_n c13 hR
        refine lv_aload_n hx hb d_Model_checkClose_56 rfl (lv_at hl 0 rfl) ?_
        refine rd_Model_189 hx hb hT hown hK hP d_Model_checkClose_57 ?_
        refine lv_iload_n hx hb d_Model_checkClose_60 rfl (lv_at hl 3 rfl) ?_
        replace hR := gd_e hR
        obtain ⟨b15, hR⟩ := hR
        refine laM_58 hx hb hK hP b15 d_Model_checkClose_61 ?_
        refine lv_iload_n hx hb d_Model_checkClose_62 rfl (lv_at hl 2 rfl) ?_
        refine lv_icmp_eq (tgt := 106) hx hb d_Model_checkClose_63 (by decide) (fun c16 => ?_) (fun c16 => ?_)
        · replace hR := if_p c16 hR
          refine lv_aload_n hx hb d_Model_checkClose_106 rfl (lv_at hl 0 rfl) ?_
          refine lv_dup hx hb d_Model_checkClose_107 rfl ?_
          refine rd_Model_575 hx hb hT hown hK hP d_Model_checkClose_108 ?_
          refine lv_iconst (v := 1) hx hb d_Model_checkClose_111 (by decide) ?_
          refine lv_iload_n hx hb d_Model_checkClose_112 rfl (lv_at hl 2 rfl) ?_
          refine lv_ishl hx hb d_Model_checkClose_113 ?_
          refine lv_iconst (v := (-1)) hx hb d_Model_checkClose_114 (by decide) ?_
          refine lv_ixor hx hb d_Model_checkClose_115 ?_
          refine lv_iand hx hb d_Model_checkClose_116 ?_
          refine wr_Model_575 hx hb hT hown hK hP hD hS d_Model_checkClose_117 (fun T17 eT H locs hP hD hS => ?_)
          replace hR := stK_e eT hR
          clear eT
          obtain ⟨-, -, e3⟩ := re_e hR
          subst e3
          exact W.vret hx hb hr (fun t ht hW => ⟨⟨(), rfl, trivial, by rw [ht]; exact hP, va_K.moved hW.alike hK, hD⟩, hS.F ht⟩) hS.2.2 d_Model_checkClose_120
        · replace hR := if_n c16 hR
          refine lv_aload_n hx hb d_Model_checkClose_66 rfl (lv_at hl 0 rfl) ?_
          refine rd_Model_189 hx hb hT hown hK hP d_Model_checkClose_67 ?_
          refine lv_iload_n hx hb d_Model_checkClose_70 rfl (lv_at hl 3 rfl) ?_
          replace hR := gd_e hR
          obtain ⟨b18, hR⟩ := hR
          refine laM_58 hx hb hK hP b18 d_Model_checkClose_71 ?_
          refine lv_if_lt (tgt := 88) hx hb d_Model_checkClose_72 (by decide) (fun c19 => ?_) (fun c19 => ?_)
          · replace hR := if_p c19 hR
            refine lv_aload_n hx hb d_Model_checkClose_88 rfl (lv_at hl 0 rfl) ?_
            refine lv_bipush (v := 8) hx hb d_Model_checkClose_89 (by decide) ?_
            refine lv_aload_n hx hb d_Model_checkClose_91 rfl (lv_at hl 0 rfl) ?_
            refine rd_Model_123 hx hb hT hown hK hP d_Model_checkClose_92 ?_
            refine lv_iload_n hx hb d_Model_checkClose_95 rfl (lv_at hl 1 rfl) ?_
            replace hR := gd_e hR
            obtain ⟨b20, hR⟩ := hR
            refine laM_36 hx hb hK hP b20 d_Model_checkClose_96 ?_
            replace hR := bi_e hR
            obtain ⟨r21, l21, T21, hc21, hR⟩ := hR
            refine gcV_v (rest := []) ⟨hx, hb, hml, hown, hT⟩ (h_Model_fail _ _ _ _ _ _ hc21) (cwV 2 hT (gV ml_Model_381 im_Model_fail se_Model_fail ini_Model co_Model_fail) rfl rfl rfl pd_Model_fail ⟨rm_hi, rm_lo (Nat.le_of_ble_eq_true rfl)⟩) hK hP hD hS hA hnw henv (Nat.le_of_ble_eq_true rfl) rfl rfl hl.1 rfl (Nat.le_of_ble_eq_true rfl) d_Model_checkClose_97 ⟨Nat.le_refl _, Nat.le_refl _⟩ (fun H locs hP hD hS => ?_)
            clear hc21
            obtain ⟨z22, e22⟩ : ∃ y : Int32, y = x3 + (-1 : Int32) := ⟨_, rfl⟩
            replace hR := vK_e e22 hR
            refine lv_iinc (v := z22) (lv' := [(3, .int z22), (0, .ref (ad 0)), (1, .int x1), (2, .int x2)]) hx hb d_Model_checkClose_100 hl (k := 3) rfl (by rw [e22]; rfl) (by decide) rfl (fun ls hl => ?_)
            refine lv_goto (tgt := 52) hx hb d_Model_checkClose_103 (by decide) ?_
            have g := ih T21 x1 x2 z22 hR
            rw [hG] at g
            exact g _ _ hP hD hS _ (lv_sub hl [1, 2, 3, 0] rfl)
          · replace hR := if_n c19 hR
            refine lv_aload_n hx hb d_Model_checkClose_75 rfl (lv_at hl 0 rfl) ?_
            refine lv_aload_n hx hb d_Model_checkClose_76 rfl (lv_at hl 0 rfl) ?_
            refine rd_Model_189 hx hb hT hown hK hP d_Model_checkClose_77 ?_
            refine lv_iload_n hx hb d_Model_checkClose_80 rfl (lv_at hl 3 rfl) ?_
            replace hR := gd_e hR
            obtain ⟨b23, hR⟩ := hR
            refine laM_58 hx hb hK hP b23 d_Model_checkClose_81 ?_
            replace hR := bi_e hR
            obtain ⟨r24, l24, T24, hc24, hR⟩ := hR
            refine gcV_i (rest := []) ⟨hx, hb, hml, hown, hT⟩ (h_Model_isLive _ _ _ _ _ hc24) (cwV 1 hT (gV ml_Model_581 im_Model_isLive se_Model_isLive ini_Model co_Model_isLive) rfl rfl rfl pd_Model_isLive ⟨rm_hi, rm_lo (Nat.le_of_ble_eq_true rfl)⟩) hK hP hD hS hA hnw henv (Nat.le_of_ble_eq_true rfl) rfl rfl hl.1 rfl (Nat.le_of_ble_eq_true rfl) d_Model_checkClose_82 ⟨Nat.le_refl _, Nat.le_refl _⟩ (fun H locs hP hD hS => ?_)
            clear hc24
            refine lv_if_eq (tgt := 100) hx hb d_Model_checkClose_85 (by decide) (fun c25 => ?_) (fun c25 => ?_)
            · replace hR := if_p c25 hR
              obtain ⟨z26, e26⟩ : ∃ y : Int32, y = x3 + (-1 : Int32) := ⟨_, rfl⟩
              replace hR := vK_e e26 hR
              refine lv_iinc (v := z26) (lv' := [(3, .int z26), (0, .ref (ad 0)), (1, .int x1), (2, .int x2)]) hx hb d_Model_checkClose_100 hl (k := 3) rfl (by rw [e26]; rfl) (by decide) rfl (fun ls hl => ?_)
              refine lv_goto (tgt := 52) hx hb d_Model_checkClose_103 (by decide) ?_
              have g := ih T24 x1 x2 z26 hR
              rw [hG] at g
              exact g _ _ hP hD hS _ (lv_sub hl [1, 2, 3, 0] rfl)
            · replace hR := if_n c25 hR
              refine lv_aload_n hx hb d_Model_checkClose_88 rfl (lv_at hl 0 rfl) ?_
              refine lv_bipush (v := 8) hx hb d_Model_checkClose_89 (by decide) ?_
              refine lv_aload_n hx hb d_Model_checkClose_91 rfl (lv_at hl 0 rfl) ?_
              refine rd_Model_123 hx hb hT hown hK hP d_Model_checkClose_92 ?_
              refine lv_iload_n hx hb d_Model_checkClose_95 rfl (lv_at hl 1 rfl) ?_
              replace hR := gd_e hR
              obtain ⟨b27, hR⟩ := hR
              refine laM_36 hx hb hK hP b27 d_Model_checkClose_96 ?_
              replace hR := bi_e hR
              obtain ⟨r28, l28, T28, hc28, hR⟩ := hR
              refine gcV_v (rest := []) ⟨hx, hb, hml, hown, hT⟩ (h_Model_fail _ _ _ _ _ _ hc28) (cwV 2 hT (gV ml_Model_381 im_Model_fail se_Model_fail ini_Model co_Model_fail) rfl rfl rfl pd_Model_fail ⟨rm_hi, rm_lo (Nat.le_of_ble_eq_true rfl)⟩) hK hP hD hS hA hnw henv (Nat.le_of_ble_eq_true rfl) rfl rfl hl.1 rfl (Nat.le_of_ble_eq_true rfl) d_Model_checkClose_97 ⟨Nat.le_refl _, Nat.le_refl _⟩ (fun H locs hP hD hS => ?_)
              clear hc28
              obtain ⟨z29, e29⟩ : ∃ y : Int32, y = x3 + (-1 : Int32) := ⟨_, rfl⟩
              replace hR := vK_e e29 hR
              refine lv_iinc (v := z29) (lv' := [(3, .int z29), (0, .ref (ad 0)), (1, .int x1), (2, .int x2)]) hx hb d_Model_checkClose_100 hl (k := 3) rfl (by rw [e29]; rfl) (by decide) rfl (fun ls hl => ?_)
              refine lv_goto (tgt := 52) hx hb d_Model_checkClose_103 (by decide) ?_
              have g := ih T28 x1 x2 z29 hR
              rw [hG] at g
              exact g _ _ hP hD hS _ (lv_sub hl [1, 2, 3, 0] rfl)
  unfold rb_Model_checkClose at hR
  refine lv_aload_n hx hb d_Model_checkClose_0 rfl (lv_at hl 0 rfl) ?_
  refine lv_aload_n hx hb d_Model_checkClose_1 rfl (lv_at hl 0 rfl) ?_
  refine rd_Model_144 hx hb hT hown hK hP d_Model_checkClose_2 ?_
  refine lv_iload_n hx hb d_Model_checkClose_5 rfl (lv_at hl 1 rfl) ?_
  replace hR := gd_e hR
  obtain ⟨b1, hR⟩ := hR
  refine laM_43 hx hb hK hP b1 d_Model_checkClose_6 ?_
  replace hR := bi_e hR
  obtain ⟨r2, l2, T2, hc2, hR⟩ := hR
  refine gcV_i (rest := []) ⟨hx, hb, hml, hown, hT⟩ (h_Model_regionAt _ _ _ _ _ hc2) (cwV 1 hT (gV ml_Model_578 im_Model_regionAt se_Model_regionAt ini_Model co_Model_regionAt) rfl rfl rfl pd_Model_regionAt ⟨rm_hi, rm_lo (Nat.le_of_ble_eq_true rfl)⟩) hK hP hD hS hA hnw henv (Nat.le_of_ble_eq_true rfl) rfl rfl hl.1 rfl (Nat.le_of_ble_eq_true rfl) d_Model_checkClose_7 ⟨Nat.le_refl _, Nat.le_refl _⟩ (fun H locs hP hD hS => ?_)
  clear hc2
  refine lv_istore_n (lv' := [(2, .int r2), (0, .ref (ad 0)), (1, .int p1)]) hx hb d_Model_checkClose_10 rfl hl (by decide) rfl (fun ls hl => ?_)
  refine lv_aload_n hx hb d_Model_checkClose_11 rfl (lv_at hl 1 rfl) ?_
  replace hR := bi_e hR
  obtain ⟨r3, l3, T3, hc3, hR⟩ := hR
  refine gcV_i (rest := []) ⟨hx, hb, hml, hown, hT⟩ (h_Model_bad _ _ _ _ hc3) (cwV 0 hT (gV ml_Model_385 im_Model_bad se_Model_bad ini_Model co_Model_bad) rfl rfl rfl pd_Model_bad ⟨rm_hi, rm_lo (Nat.le_of_ble_eq_true rfl)⟩) hK hP hD hS hA hnw henv (Nat.le_of_ble_eq_true rfl) rfl rfl hl.1 rfl (Nat.le_of_ble_eq_true rfl) d_Model_checkClose_12 ⟨Nat.le_refl _, Nat.le_refl _⟩ (fun H locs hP hD hS => ?_)
  clear hc3
  refine lv_if_eq (tgt := 19) hx hb d_Model_checkClose_15 (by decide) (fun c4 => ?_) (fun c4 => ?_)
  · replace hR := if_p c4 hR
    refine lv_iload_n hx hb d_Model_checkClose_19 rfl (lv_at hl 0 rfl) ?_
    refine lv_iconst (v := 4) hx hb d_Model_checkClose_20 (by decide) ?_
    refine lv_icmp_lt (tgt := 32) hx hb d_Model_checkClose_21 (by decide) (fun c5 => ?_) (fun c5 => ?_)
    · replace hR := if_p c5 hR
      refine lv_aload_n hx hb d_Model_checkClose_32 rfl (lv_at hl 1 rfl) ?_
      refine lv_bipush (v := 8) hx hb d_Model_checkClose_33 (by decide) ?_
      refine lv_aload_n hx hb d_Model_checkClose_35 rfl (lv_at hl 1 rfl) ?_
      refine rd_Model_123 hx hb hT hown hK hP d_Model_checkClose_36 ?_
      refine lv_iload_n hx hb d_Model_checkClose_39 rfl (lv_at hl 2 rfl) ?_
      replace hR := gd_e hR
      obtain ⟨b6, hR⟩ := hR
      refine laM_36 hx hb hK hP b6 d_Model_checkClose_40 ?_
      replace hR := bi_e hR
      obtain ⟨r7, l7, T7, hc7, hR⟩ := hR
      refine gcV_v (rest := []) ⟨hx, hb, hml, hown, hT⟩ (h_Model_fail _ _ _ _ _ _ hc7) (cwV 2 hT (gV ml_Model_381 im_Model_fail se_Model_fail ini_Model co_Model_fail) rfl rfl rfl pd_Model_fail ⟨rm_hi, rm_lo (Nat.le_of_ble_eq_true rfl)⟩) hK hP hD hS hA hnw henv (Nat.le_of_ble_eq_true rfl) rfl rfl hl.1 rfl (Nat.le_of_ble_eq_true rfl) d_Model_checkClose_41 ⟨Nat.le_refl _, Nat.le_refl _⟩ (fun H locs hP hD hS => ?_)
      clear hc7
      obtain ⟨-, -, e3⟩ := re_e hR
      subst e3
      exact W.vret hx hb hr (fun t ht hW => ⟨⟨(), rfl, trivial, by rw [ht]; exact hP, va_K.moved hW.alike hK, hD⟩, hS.F ht⟩) hS.2.2 d_Model_checkClose_44
    · replace hR := if_n c5 hR
      refine lv_aload_n hx hb d_Model_checkClose_24 rfl (lv_at hl 1 rfl) ?_
      refine lv_iload_n hx hb d_Model_checkClose_25 rfl (lv_at hl 0 rfl) ?_
      replace hR := bi_e hR
      obtain ⟨r8, l8, T8, hc8, hR⟩ := hR
      refine gcV_i (rest := []) ⟨hx, hb, hml, hown, hT⟩ (h_Model_isLive _ _ _ _ _ hc8) (cwV 1 hT (gV ml_Model_581 im_Model_isLive se_Model_isLive ini_Model co_Model_isLive) rfl rfl rfl pd_Model_isLive ⟨rm_hi, rm_lo (Nat.le_of_ble_eq_true rfl)⟩) hK hP hD hS hA hnw henv (Nat.le_of_ble_eq_true rfl) rfl rfl hl.1 rfl (Nat.le_of_ble_eq_true rfl) d_Model_checkClose_26 ⟨Nat.le_refl _, Nat.le_refl _⟩ (fun H locs hP hD hS => ?_)
      clear hc8
      refine lv_if_ne (tgt := 45) hx hb d_Model_checkClose_29 (by decide) (fun c9 => ?_) (fun c9 => ?_)
      · replace hR := if_n c9 hR
        refine lv_aload_n hx hb d_Model_checkClose_45 rfl (lv_at hl 1 rfl) ?_
        refine rd_Model_634 hx hb hT hown hK hP d_Model_checkClose_46 ?_
        refine lv_iconst (v := 1) hx hb d_Model_checkClose_49 (by decide) ?_
        refine lv_isub hx hb d_Model_checkClose_50 ?_
        refine lv_topi (fun z10 e10 => ?_)
        replace hR := vK_e e10 hR
        refine lv_istore_n (lv' := [(3, .int z10), (2, .int r2), (0, .ref (ad 0)), (1, .int p1)]) hx hb d_Model_checkClose_51 rfl hl (by decide) rfl (fun ls hl => ?_)
        have g := lb_52 nf T8 p1 r2 z10 hR
        rw [hG] at g
        exact g _ _ hP hD hS _ (lv_sub hl [2, 3, 1, 0] rfl)
      · replace hR := if_p c9 hR
        refine lv_aload_n hx hb d_Model_checkClose_32 rfl (lv_at hl 1 rfl) ?_
        refine lv_bipush (v := 8) hx hb d_Model_checkClose_33 (by decide) ?_
        refine lv_aload_n hx hb d_Model_checkClose_35 rfl (lv_at hl 1 rfl) ?_
        refine rd_Model_123 hx hb hT hown hK hP d_Model_checkClose_36 ?_
        refine lv_iload_n hx hb d_Model_checkClose_39 rfl (lv_at hl 2 rfl) ?_
        replace hR := gd_e hR
        obtain ⟨b11, hR⟩ := hR
        refine laM_36 hx hb hK hP b11 d_Model_checkClose_40 ?_
        replace hR := bi_e hR
        obtain ⟨r12, l12, T12, hc12, hR⟩ := hR
        refine gcV_v (rest := []) ⟨hx, hb, hml, hown, hT⟩ (h_Model_fail _ _ _ _ _ _ hc12) (cwV 2 hT (gV ml_Model_381 im_Model_fail se_Model_fail ini_Model co_Model_fail) rfl rfl rfl pd_Model_fail ⟨rm_hi, rm_lo (Nat.le_of_ble_eq_true rfl)⟩) hK hP hD hS hA hnw henv (Nat.le_of_ble_eq_true rfl) rfl rfl hl.1 rfl (Nat.le_of_ble_eq_true rfl) d_Model_checkClose_41 ⟨Nat.le_refl _, Nat.le_refl _⟩ (fun H locs hP hD hS => ?_)
        clear hc12
        obtain ⟨-, -, e3⟩ := re_e hR
        subst e3
        exact W.vret hx hb hr (fun t ht hW => ⟨⟨(), rfl, trivial, by rw [ht]; exact hP, va_K.moved hW.alike hK, hD⟩, hS.F ht⟩) hS.2.2 d_Model_checkClose_44
  · replace hR := if_n c4 hR
    obtain ⟨-, -, e3⟩ := re_e hR
    subst e3
    exact W.vret hx hb hr (fun t ht hW => ⟨⟨(), rfl, trivial, by rw [ht]; exact hP, va_K.moved hW.alike hK, hD⟩, hS.F ht⟩) hS.2.2 d_Model_checkClose_18
set_option maxHeartbeats 4000000 in
set_option maxRecDepth 100000 in
theorem sp_Model_checkTry (l : Launch) (dC : Nat → ClassId) (dI : Nat → Nat → Nat) (ea ev ad : Nat → Nat) (km : Nat → ClassId) (F : gF) (nf d : Nat) (h_Model_given : mt_Model_given l dC dI ea ev ad km F d) (h_Model_checkBlock : mt_Model_checkBlock l dC dI ea ev ad km F d) (h_Model_bad : mt_Model_bad l dC dI ea ev ad km F d) (h_Model_meet : mt_Model_meet l dC dI ea ev ad km F d) (T0 : gSt) (p1 : Int32) (r0 : Int32) (rl0 : Int64) (T9 : gSt) (hR : rb_Model_checkTry F nf T0 p1 = some (r0, rl0, T9)) : GMv l dC dI LM ad km ea ev y_Model_checkTry w_Model_checkTry (rmD (d + 1)) [.ref (ad 0), .int p1] T0 T9 := by
  intro sz
  refine Met.ofW (cc := b_Model_checkTry) (maxL := 11) (ret := none) (by decide) rfl ?_
  intro p e s m args below meth c s₁ B hml hv
  obtain ⟨rfl, hsz, hP, hK, hD0, hnw, henv⟩ := hv
  have hx := B.exec
  have hb := B.bytes
  have hr := B.returns
  have hT : ∀ w ∈ lw_good, w.before _ s = true := fun w h => atoms_spec (ws := w_Model_checkTry) B.pre w (List.mem_cons_of_mem _ h)
  have hown : s.vm.findClass R_Model = some m.cls := findClass_of_methodNamed B.named
  subst hsz
  have hD := hD0.self (sz := s.heap.size)
  clear hD0
  generalize hAe : va_A (gW LM ad km T0) s.heap.size = A at hD henv ⊢
  have hA : ∀ q : Nat, s.heap.size ≤ q → A q := fun q h => by rw [← hAe]; exact Or.inr h
  have hS : va_S A s.heap s.heap [] := va_S.rf
  have hl := lv_entry ([.ref (ad 0), .int p1]) (n := 11) (Nat.le_of_ble_eq_true rfl)
  rw [lg_entry_eq]
  generalize (lg_sl ([.ref (ad 0), .int p1]) ++ List.replicate (11 - (lg_sl ([.ref (ad 0), .int p1])).length) Slot.unset).toArray = ls at hl ⊢
  have hl : lv_has ls 11 [(0, .ref (ad 0)), (1, .int p1)] := hl
  obtain ⟨G, hG⟩ : ∃ G : Nat → List (Nat × Value) → List Value → gSt → Prop, G = (fun pc lv stk T => ∀ (H : Heap) (locs : List Loc), va_P (dC, dI) cls_all (gW LM ad km T) H → va_D A (gW LM ad km T) → va_S A s.heap H locs → ∀ (ls : Array Slot), lv_has ls 11 lv → W p l e (headSpec w_Model_checkTry (rmD (d + 1))).room s m ([.ref (ad 0), .int p1] : List Value).toArray below meth c H locs 0 0 (MQ below (va_Qv (fun (_ : Unit) => True) (fun _ t => gPost dC dI LM ad km T9 A t) A) ([.ref (ad 0), .int p1] : List Value).toArray s 0 0 A) (F0 m pc ls stk)) := ⟨_, rfl⟩
  have lb_128 : ∀ (T : gSt) (x1 : Int32) (x5 : Int32) (x6 : Int32) (x7 : Int32) (x8 : Int32) (x9 : Int32) (x10 : Int32) (y0 : Int32), rj_Model_checkTry_128 F nf T x1 x5 x6 x7 x8 x9 x10 y0 = some (r0, rl0, T9) → G 128 [(0, .ref (ad 0)), (1, .int x1), (5, .int x5), (6, .int x6), (7, .int x7), (8, .int x8), (9, .int x9), (10, .int x10)] [.int y0, .ref (ad 0)] T := by
    intro T x1 x5 x6 x7 x8 x9 x10 y0 hR; unfold rj_Model_checkTry_128 at hR; rw [hG]; intro H locs hP hD hS ls hl
    refine wr_Model_627 hx hb hT hown hK hP hD hS d_Model_checkTry_128 (fun T20 eT H locs hP hD hS => ?_)
    replace hR := stK_e eT hR
    clear eT
    refine lv_aload_n hx hb d_Model_checkTry_131 rfl (lv_at hl 0 rfl) ?_
    refine lv_iload hx hb d_Model_checkTry_132 (lv_at hl 2 rfl) ?_
    refine wr_Model_575 hx hb hT hown hK hP hD hS d_Model_checkTry_134 (fun T21 eT H locs hP hD hS => ?_)
    replace hR := stK_e eT hR
    clear eT
    refine lv_aload_n hx hb d_Model_checkTry_137 rfl (lv_at hl 0 rfl) ?_
    refine lv_iload hx hb d_Model_checkTry_138 (lv_at hl 3 rfl) ?_
    replace hR := gd_e hR
    obtain ⟨b22, hR⟩ := hR
    refine wr_Model_630 hx hb hT hown hK hP hD hS b22 d_Model_checkTry_140 (fun T22 eT H locs hP hD hS => ?_)
    replace hR := stK_e eT hR
    clear eT
    refine lv_aload_n hx hb d_Model_checkTry_143 rfl (lv_at hl 0 rfl) ?_
    refine lv_dup hx hb d_Model_checkTry_144 rfl ?_
    refine rd_Model_640 hx hb hT hown hK hP d_Model_checkTry_145 ?_
    refine lv_iconst (v := 1) hx hb d_Model_checkTry_148 (by decide) ?_
    refine lv_iadd hx hb d_Model_checkTry_149 ?_
    refine wr_Model_640 hx hb hT hown hK hP hD hS d_Model_checkTry_150 (fun T23 eT H locs hP hD hS => ?_)
    replace hR := stK_e eT hR
    clear eT
    refine lv_aload_n hx hb d_Model_checkTry_153 rfl (lv_at hl 0 rfl) ?_
    refine rd_Model_153 hx hb hT hown hK hP d_Model_checkTry_154 ?_
    refine lv_iload_n hx hb d_Model_checkTry_157 rfl (lv_at hl 1 rfl) ?_
    refine lv_aload_n hx hb d_Model_checkTry_158 rfl (lv_at hl 0 rfl) ?_
    refine rd_Model_640 hx hb hT hown hK hP d_Model_checkTry_159 ?_
    replace hR := gd_e hR
    obtain ⟨b24, hR⟩ := hR
    refine saM_46 hx hb hK hP hD hS b24 d_Model_checkTry_162 (fun T24 eT H locs hP hD hS => ?_)
    replace hR := stK_e eT hR
    clear eT
    refine lv_aload_n hx hb d_Model_checkTry_163 rfl (lv_at hl 0 rfl) ?_
    refine lv_aload_n hx hb d_Model_checkTry_164 rfl (lv_at hl 0 rfl) ?_
    refine rd_Model_129 hx hb hT hown hK hP d_Model_checkTry_165 ?_
    refine lv_iload_n hx hb d_Model_checkTry_168 rfl (lv_at hl 1 rfl) ?_
    replace hR := gd_e hR
    obtain ⟨b25, hR⟩ := hR
    refine laM_38 hx hb hK hP b25 d_Model_checkTry_169 ?_
    replace hR := bi_e hR
    obtain ⟨r26, l26, T26, hc26, hR⟩ := hR
    refine gcV_v (rest := []) ⟨hx, hb, hml, hown, hT⟩ (h_Model_checkBlock _ _ _ _ _ hc26) (cwV 1 hT (gV ml_Model_646 im_Model_checkBlock se_Model_checkBlock ini_Model co_Model_checkBlock) rfl rfl rfl pd_Model_checkBlock ⟨rm_hi, rm_lo (Nat.le_of_ble_eq_true rfl)⟩) hK hP hD hS hA hnw henv (Nat.le_of_ble_eq_true rfl) rfl rfl hl.1 rfl (Nat.le_of_ble_eq_true rfl) d_Model_checkTry_170 ⟨Nat.le_refl _, Nat.le_refl _⟩ (fun H locs hP hD hS => ?_)
    clear hc26
    refine lv_aload_n hx hb d_Model_checkTry_173 rfl (lv_at hl 0 rfl) ?_
    refine lv_dup hx hb d_Model_checkTry_174 rfl ?_
    refine rd_Model_640 hx hb hT hown hK hP d_Model_checkTry_175 ?_
    refine lv_iconst (v := 1) hx hb d_Model_checkTry_178 (by decide) ?_
    refine lv_isub hx hb d_Model_checkTry_179 ?_
    refine wr_Model_640 hx hb hT hown hK hP hD hS d_Model_checkTry_180 (fun T27 eT H locs hP hD hS => ?_)
    replace hR := stK_e eT hR
    clear eT
    refine lv_aload_n hx hb d_Model_checkTry_183 rfl (lv_at hl 0 rfl) ?_
    replace hR := bi_e hR
    obtain ⟨r28, l28, T28, hc28, hR⟩ := hR
    refine gcV_i (rest := []) ⟨hx, hb, hml, hown, hT⟩ (h_Model_bad _ _ _ _ hc28) (cwV 0 hT (gV ml_Model_385 im_Model_bad se_Model_bad ini_Model co_Model_bad) rfl rfl rfl pd_Model_bad ⟨rm_hi, rm_lo (Nat.le_of_ble_eq_true rfl)⟩) hK hP hD hS hA hnw henv (Nat.le_of_ble_eq_true rfl) rfl rfl hl.1 rfl (Nat.le_of_ble_eq_true rfl) d_Model_checkTry_184 ⟨Nat.le_refl _, Nat.le_refl _⟩ (fun H locs hP hD hS => ?_)
    clear hc28
    refine lv_if_ne (tgt := 208) hx hb d_Model_checkTry_187 (by decide) (fun c29 => ?_) (fun c29 => ?_)
    · replace hR := if_n c29 hR
      obtain ⟨-, -, e3⟩ := re_e hR
      subst e3
      exact W.vret hx hb hr (fun t ht hW => ⟨⟨(), rfl, trivial, by rw [ht]; exact hP, va_K.moved hW.alike hK, hD⟩, hS.F ht⟩) hS.2.2 d_Model_checkTry_208
    · replace hR := if_p c29 hR
      refine lv_aload_n hx hb d_Model_checkTry_190 rfl (lv_at hl 0 rfl) ?_
      refine lv_iload hx hb d_Model_checkTry_191 (lv_at hl 4 rfl) ?_
      refine lv_iload hx hb d_Model_checkTry_193 (lv_at hl 5 rfl) ?_
      refine lv_iload hx hb d_Model_checkTry_195 (lv_at hl 6 rfl) ?_
      refine lv_iload hx hb d_Model_checkTry_197 (lv_at hl 7 rfl) ?_
      refine lv_aload_n hx hb d_Model_checkTry_199 rfl (lv_at hl 0 rfl) ?_
      refine rd_Model_123 hx hb hT hown hK hP d_Model_checkTry_200 ?_
      refine lv_iload_n hx hb d_Model_checkTry_203 rfl (lv_at hl 1 rfl) ?_
      replace hR := gd_e hR
      obtain ⟨b30, hR⟩ := hR
      refine laM_36 hx hb hK hP b30 d_Model_checkTry_204 ?_
      replace hR := bi_e hR
      obtain ⟨r31, l31, T31, hc31, hR⟩ := hR
      refine gcV_v (rest := []) ⟨hx, hb, hml, hown, hT⟩ (h_Model_meet _ _ _ _ _ _ _ _ _ hc31) (cwV 5 hT (gV ml_Model_711 im_Model_meet se_Model_meet ini_Model co_Model_meet) rfl rfl rfl pd_Model_meet ⟨rm_hi, rm_lo (Nat.le_of_ble_eq_true rfl)⟩) hK hP hD hS hA hnw henv (Nat.le_of_ble_eq_true rfl) rfl rfl hl.1 rfl (Nat.le_of_ble_eq_true rfl) d_Model_checkTry_205 ⟨Nat.le_refl _, Nat.le_refl _⟩ (fun H locs hP hD hS => ?_)
      clear hc31
      obtain ⟨-, -, e3⟩ := re_e hR
      subst e3
      exact W.vret hx hb hr (fun t ht hW => ⟨⟨(), rfl, trivial, by rw [ht]; exact hP, va_K.moved hW.alike hK, hD⟩, hS.F ht⟩) hS.2.2 d_Model_checkTry_208
  unfold rb_Model_checkTry at hR
  refine lv_aload_n hx hb d_Model_checkTry_0 rfl (lv_at hl 0 rfl) ?_
  refine lv_aload_n hx hb d_Model_checkTry_1 rfl (lv_at hl 0 rfl) ?_
  refine rd_Model_126 hx hb hT hown hK hP d_Model_checkTry_2 ?_
  refine lv_iload_n hx hb d_Model_checkTry_5 rfl (lv_at hl 1 rfl) ?_
  replace hR := gd_e hR
  obtain ⟨b1, hR⟩ := hR
  refine laM_37 hx hb hK hP b1 d_Model_checkTry_6 ?_
  replace hR := bi_e hR
  obtain ⟨r2, l2, T2, hc2, hR⟩ := hR
  refine gcV_i (rest := []) ⟨hx, hb, hml, hown, hT⟩ (h_Model_given _ _ _ _ _ hc2) (cwV 1 hT (gV ml_Model_715 im_Model_given se_Model_given ini_Model co_Model_given) rfl rfl rfl pd_Model_given ⟨rm_hi, rm_lo (Nat.le_of_ble_eq_true rfl)⟩) hK hP hD hS hA hnw henv (Nat.le_of_ble_eq_true rfl) rfl rfl hl.1 rfl (Nat.le_of_ble_eq_true rfl) d_Model_checkTry_7 ⟨Nat.le_refl _, Nat.le_refl _⟩ (fun H locs hP hD hS => ?_)
  clear hc2
  refine lv_istore_n (lv' := [(2, .int r2), (0, .ref (ad 0)), (1, .int p1)]) hx hb d_Model_checkTry_10 rfl hl (by decide) rfl (fun ls hl => ?_)
  refine lv_aload_n hx hb d_Model_checkTry_11 rfl (lv_at hl 1 rfl) ?_
  refine rd_Model_624 hx hb hT hown hK hP d_Model_checkTry_12 ?_
  refine lv_topi (fun z3 e3 => ?_)
  replace hR := vK_e e3 hR
  refine lv_istore_n (lv' := [(3, .int z3), (2, .int r2), (0, .ref (ad 0)), (1, .int p1)]) hx hb d_Model_checkTry_15 rfl hl (by decide) rfl (fun ls hl => ?_)
  refine lv_aload_n hx hb d_Model_checkTry_16 rfl (lv_at hl 2 rfl) ?_
  refine rd_Model_627 hx hb hT hown hK hP d_Model_checkTry_17 ?_
  refine lv_topi (fun z4 e4 => ?_)
  replace hR := vK_e e4 hR
  refine lv_istore (lv' := [(4, .int z4), (3, .int z3), (2, .int r2), (0, .ref (ad 0)), (1, .int p1)]) hx hb d_Model_checkTry_20 hl (by decide) rfl (fun ls hl => ?_)
  refine lv_aload_n hx hb d_Model_checkTry_22 rfl (lv_at hl 3 rfl) ?_
  refine rd_Model_575 hx hb hT hown hK hP d_Model_checkTry_23 ?_
  refine lv_topi (fun z5 e5 => ?_)
  replace hR := vK_e e5 hR
  refine lv_istore (lv' := [(5, .int z5), (4, .int z4), (3, .int z3), (2, .int r2), (0, .ref (ad 0)), (1, .int p1)]) hx hb d_Model_checkTry_26 hl (by decide) rfl (fun ls hl => ?_)
  refine lv_aload_n hx hb d_Model_checkTry_28 rfl (lv_at hl 4 rfl) ?_
  refine rd_Model_630 hx hb hT hown hK hP d_Model_checkTry_29 ?_
  refine lv_topi (fun z6 e6 => ?_)
  replace hR := vK_e e6 hR
  refine lv_istore (lv' := [(6, .int z6), (5, .int z5), (4, .int z4), (3, .int z3), (2, .int r2), (0, .ref (ad 0)), (1, .int p1)]) hx hb d_Model_checkTry_32 hl (by decide) rfl (fun ls hl => ?_)
  refine lv_aload_n hx hb d_Model_checkTry_34 rfl (lv_at hl 5 rfl) ?_
  refine rd_Model_189 hx hb hT hown hK hP d_Model_checkTry_35 ?_
  refine lv_aload_n hx hb d_Model_checkTry_38 rfl (lv_at hl 5 rfl) ?_
  refine rd_Model_634 hx hb hT hown hK hP d_Model_checkTry_39 ?_
  refine lv_iconst (v := (-1)) hx hb d_Model_checkTry_42 (by decide) ?_
  replace hR := gd_e hR
  obtain ⟨b7, hR⟩ := hR
  refine saM_58 hx hb hK hP hD hS b7 d_Model_checkTry_43 (fun T7 eT H locs hP hD hS => ?_)
  replace hR := stK_e eT hR
  clear eT
  refine lv_aload_n hx hb d_Model_checkTry_44 rfl (lv_at hl 5 rfl) ?_
  refine lv_dup hx hb d_Model_checkTry_45 rfl ?_
  refine rd_Model_634 hx hb hT hown hK hP d_Model_checkTry_46 ?_
  refine lv_iconst (v := 1) hx hb d_Model_checkTry_49 (by decide) ?_
  refine lv_iadd hx hb d_Model_checkTry_50 ?_
  refine wr_Model_634 hx hb hT hown hK hP hD hS d_Model_checkTry_51 (fun T8 eT H locs hP hD hS => ?_)
  replace hR := stK_e eT hR
  clear eT
  refine lv_aload_n hx hb d_Model_checkTry_54 rfl (lv_at hl 5 rfl) ?_
  refine lv_aload_n hx hb d_Model_checkTry_55 rfl (lv_at hl 5 rfl) ?_
  refine rd_Model_126 hx hb hT hown hK hP d_Model_checkTry_56 ?_
  refine lv_iload_n hx hb d_Model_checkTry_59 rfl (lv_at hl 6 rfl) ?_
  replace hR := gd_e hR
  obtain ⟨b9, hR⟩ := hR
  refine laM_37 hx hb hK hP b9 d_Model_checkTry_60 ?_
  replace hR := bi_e hR
  obtain ⟨r10, l10, T10, hc10, hR⟩ := hR
  refine gcV_v (rest := []) ⟨hx, hb, hml, hown, hT⟩ (h_Model_checkBlock _ _ _ _ _ hc10) (cwV 1 hT (gV ml_Model_646 im_Model_checkBlock se_Model_checkBlock ini_Model co_Model_checkBlock) rfl rfl rfl pd_Model_checkBlock ⟨rm_hi, rm_lo (Nat.le_of_ble_eq_true rfl)⟩) hK hP hD hS hA hnw henv (Nat.le_of_ble_eq_true rfl) rfl rfl hl.1 rfl (Nat.le_of_ble_eq_true rfl) d_Model_checkTry_61 ⟨Nat.le_refl _, Nat.le_refl _⟩ (fun H locs hP hD hS => ?_)
  clear hc10
  refine lv_aload_n hx hb d_Model_checkTry_64 rfl (lv_at hl 5 rfl) ?_
  refine lv_dup hx hb d_Model_checkTry_65 rfl ?_
  refine rd_Model_634 hx hb hT hown hK hP d_Model_checkTry_66 ?_
  refine lv_iconst (v := 1) hx hb d_Model_checkTry_69 (by decide) ?_
  refine lv_isub hx hb d_Model_checkTry_70 ?_
  refine wr_Model_634 hx hb hT hown hK hP hD hS d_Model_checkTry_71 (fun T11 eT H locs hP hD hS => ?_)
  replace hR := stK_e eT hR
  clear eT
  refine lv_aload_n hx hb d_Model_checkTry_74 rfl (lv_at hl 5 rfl) ?_
  replace hR := bi_e hR
  obtain ⟨r12, l12, T12, hc12, hR⟩ := hR
  refine gcV_i (rest := []) ⟨hx, hb, hml, hown, hT⟩ (h_Model_bad _ _ _ _ hc12) (cwV 0 hT (gV ml_Model_385 im_Model_bad se_Model_bad ini_Model co_Model_bad) rfl rfl rfl pd_Model_bad ⟨rm_hi, rm_lo (Nat.le_of_ble_eq_true rfl)⟩) hK hP hD hS hA hnw henv (Nat.le_of_ble_eq_true rfl) rfl rfl hl.1 rfl (Nat.le_of_ble_eq_true rfl) d_Model_checkTry_75 ⟨Nat.le_refl _, Nat.le_refl _⟩ (fun H locs hP hD hS => ?_)
  clear hc12
  refine lv_if_eq (tgt := 82) hx hb d_Model_checkTry_78 (by decide) (fun c13 => ?_) (fun c13 => ?_)
  · replace hR := if_p c13 hR
    refine lv_aload_n hx hb d_Model_checkTry_82 rfl (lv_at hl 5 rfl) ?_
    refine rd_Model_624 hx hb hT hown hK hP d_Model_checkTry_83 ?_
    refine lv_topi (fun z14 e14 => ?_)
    replace hR := vK_e e14 hR
    refine lv_istore (lv' := [(7, .int z14), (6, .int z6), (5, .int z5), (4, .int z4), (3, .int z3), (2, .int r2), (0, .ref (ad 0)), (1, .int p1)]) hx hb d_Model_checkTry_86 hl (by decide) rfl (fun ls hl => ?_)
    refine lv_aload_n hx hb d_Model_checkTry_88 rfl (lv_at hl 6 rfl) ?_
    refine rd_Model_627 hx hb hT hown hK hP d_Model_checkTry_89 ?_
    refine lv_topi (fun z15 e15 => ?_)
    replace hR := vK_e e15 hR
    refine lv_istore (lv' := [(8, .int z15), (7, .int z14), (6, .int z6), (5, .int z5), (4, .int z4), (3, .int z3), (2, .int r2), (0, .ref (ad 0)), (1, .int p1)]) hx hb d_Model_checkTry_92 hl (by decide) rfl (fun ls hl => ?_)
    refine lv_aload_n hx hb d_Model_checkTry_94 rfl (lv_at hl 7 rfl) ?_
    refine rd_Model_575 hx hb hT hown hK hP d_Model_checkTry_95 ?_
    refine lv_topi (fun z16 e16 => ?_)
    replace hR := vK_e e16 hR
    refine lv_istore (lv' := [(9, .int z16), (8, .int z15), (7, .int z14), (6, .int z6), (5, .int z5), (4, .int z4), (3, .int z3), (2, .int r2), (0, .ref (ad 0)), (1, .int p1)]) hx hb d_Model_checkTry_98 hl (by decide) rfl (fun ls hl => ?_)
    refine lv_aload_n hx hb d_Model_checkTry_100 rfl (lv_at hl 8 rfl) ?_
    refine rd_Model_630 hx hb hT hown hK hP d_Model_checkTry_101 ?_
    refine lv_topi (fun z17 e17 => ?_)
    replace hR := vK_e e17 hR
    refine lv_istore (lv' := [(10, .int z17), (9, .int z16), (8, .int z15), (7, .int z14), (6, .int z6), (5, .int z5), (4, .int z4), (3, .int z3), (2, .int r2), (0, .ref (ad 0)), (1, .int p1)]) hx hb d_Model_checkTry_104 hl (by decide) rfl (fun ls hl => ?_)
    refine lv_aload_n hx hb d_Model_checkTry_106 rfl (lv_at hl 9 rfl) ?_
    refine lv_iload_n hx hb d_Model_checkTry_107 rfl (lv_at hl 7 rfl) ?_
    refine wr_Model_624 hx hb hT hown hK hP hD hS d_Model_checkTry_108 (fun T18 eT H locs hP hD hS => ?_)
    replace hR := stK_e eT hR
    clear eT
    refine lv_aload_n hx hb d_Model_checkTry_111 rfl (lv_at hl 9 rfl) ?_
    refine lv_iload hx hb d_Model_checkTry_112 (lv_at hl 4 rfl) ?_
    refine lv_if_eq (tgt := 126) hx hb d_Model_checkTry_114 (by decide) (fun c19 => ?_) (fun c19 => ?_)
    · replace hR := if_p c19 hR
      refine lv_iload hx hb d_Model_checkTry_126 (lv_at hl 6 rfl) ?_
      have g := lb_128 T18 p1 z5 z6 z14 z15 z16 z17 z4 hR
      rw [hG] at g
      exact g _ _ hP hD hS _ (lv_sub hl [9, 10, 5, 4, 3, 2, 1, 0] rfl)
    · replace hR := if_n c19 hR
      refine lv_iload hx hb d_Model_checkTry_117 (lv_at hl 6 rfl) ?_
      refine lv_iload_n hx hb d_Model_checkTry_119 rfl (lv_at hl 8 rfl) ?_
      refine lv_iconst (v := (-1)) hx hb d_Model_checkTry_120 (by decide) ?_
      refine lv_ixor hx hb d_Model_checkTry_121 ?_
      refine lv_iand hx hb d_Model_checkTry_122 ?_
      refine lv_goto (tgt := 128) hx hb d_Model_checkTry_123 (by decide) ?_
      have g := lb_128 T18 p1 z5 z6 z14 z15 z16 z17 (z4 &&& (r2 ^^^ (-1 : Int32))) hR
      rw [hG] at g
      exact g _ _ hP hD hS _ (lv_sub hl [9, 10, 5, 4, 3, 2, 1, 0] rfl)
  · replace hR := if_n c13 hR
    obtain ⟨-, -, e3⟩ := re_e hR
    subst e3
    exact W.vret hx hb hr (fun t ht hW => ⟨⟨(), rfl, trivial, by rw [ht]; exact hP, va_K.moved hW.alike hK, hD⟩, hS.F ht⟩) hS.2.2 d_Model_checkTry_81
set_option maxHeartbeats 4000000 in
set_option maxRecDepth 100000 in
theorem sp_Model_isLeft (l : Launch) (dC : Nat → ClassId) (dI : Nat → Nat → Nat) (ea ev ad : Nat → Nat) (km : Nat → ClassId) (F : gF) (nf d : Nat) (T0 : gSt) (p1 : Int32) (r0 : Int32) (rl0 : Int64) (T9 : gSt) (hR : rb_Model_isLeft F nf T0 p1 = some (r0, rl0, T9)) : GMi l dC dI LM ad km ea ev y_Model_isLeft w_Model_isLeft (rmD (d + 1)) [.int p1] T0 r0 T9 := by
  intro sz
  refine Met.ofW (cc := b_Model_isLeft) (maxL := 1) (ret := (some .boolean)) (by decide) rfl ?_
  intro p e s m args below meth c s₁ B hml hv
  obtain ⟨rfl, hsz, hP, hK, hD0, hnw, henv⟩ := hv
  have hx := B.exec
  have hb := B.bytes
  have hr := B.returns
  have hT : ∀ w ∈ lw_good, w.before _ s = true := fun w h => atoms_spec (ws := w_Model_isLeft) B.pre w (List.mem_cons_of_mem _ h)
  have hown : s.vm.findClass R_Model = some m.cls := findClass_of_methodNamed B.named
  subst hsz
  have hD := hD0.self (sz := s.heap.size)
  clear hD0
  generalize hAe : va_A (gW LM ad km T0) s.heap.size = A at hD henv ⊢
  have hA : ∀ q : Nat, s.heap.size ≤ q → A q := fun q h => by rw [← hAe]; exact Or.inr h
  have hS : va_S A s.heap s.heap [] := va_S.rf
  have hl := lv_entry ([.int p1]) (n := 1) (Nat.le_of_ble_eq_true rfl)
  rw [lg_entry_eq]
  generalize (lg_sl ([.int p1]) ++ List.replicate (1 - (lg_sl ([.int p1])).length) Slot.unset).toArray = ls at hl ⊢
  have hl : lv_has ls 1 [(0, .int p1)] := hl
  unfold rb_Model_isLeft at hR
  refine lv_iload_n hx hb d_Model_isLeft_0 rfl (lv_at hl 0 rfl) ?_
  refine lv_bipush (v := 13) hx hb d_Model_isLeft_1 (by decide) ?_
  refine lv_icmp_eq (tgt := 30) hx hb d_Model_isLeft_3 (by decide) (fun c1 => ?_) (fun c1 => ?_)
  · replace hR := if_p c1 hR
    refine lv_iconst (v := 1) hx hb d_Model_isLeft_30 (by decide) ?_
    refine lv_goto (tgt := 35) hx hb d_Model_isLeft_31 (by decide) ?_
    obtain ⟨e1, -, e3⟩ := re_e hR
    subst e1; subst e3
    exact W.zret (v := (1 : Int32)) hx hb hr (by first | rfl | decide) (fun t ht hW => ⟨⟨(1 : Int32), (), rfl, rfl, by rw [ht]; exact hP, va_K.moved hW.alike hK, hD⟩, hS.F ht⟩) hS.2.2 d_Model_isLeft_35
  · replace hR := if_n c1 hR
    refine lv_iload_n hx hb d_Model_isLeft_6 rfl (lv_at hl 0 rfl) ?_
    refine lv_bipush (v := 14) hx hb d_Model_isLeft_7 (by decide) ?_
    refine lv_icmp_eq (tgt := 30) hx hb d_Model_isLeft_9 (by decide) (fun c3 => ?_) (fun c3 => ?_)
    · replace hR := if_p c3 hR
      refine lv_iconst (v := 1) hx hb d_Model_isLeft_30 (by decide) ?_
      refine lv_goto (tgt := 35) hx hb d_Model_isLeft_31 (by decide) ?_
      obtain ⟨e1, -, e3⟩ := re_e hR
      subst e1; subst e3
      exact W.zret (v := (1 : Int32)) hx hb hr (by first | rfl | decide) (fun t ht hW => ⟨⟨(1 : Int32), (), rfl, rfl, by rw [ht]; exact hP, va_K.moved hW.alike hK, hD⟩, hS.F ht⟩) hS.2.2 d_Model_isLeft_35
    · replace hR := if_n c3 hR
      refine lv_iload_n hx hb d_Model_isLeft_12 rfl (lv_at hl 0 rfl) ?_
      refine lv_bipush (v := 15) hx hb d_Model_isLeft_13 (by decide) ?_
      refine lv_icmp_eq (tgt := 30) hx hb d_Model_isLeft_15 (by decide) (fun c5 => ?_) (fun c5 => ?_)
      · replace hR := if_p c5 hR
        refine lv_iconst (v := 1) hx hb d_Model_isLeft_30 (by decide) ?_
        refine lv_goto (tgt := 35) hx hb d_Model_isLeft_31 (by decide) ?_
        obtain ⟨e1, -, e3⟩ := re_e hR
        subst e1; subst e3
        exact W.zret (v := (1 : Int32)) hx hb hr (by first | rfl | decide) (fun t ht hW => ⟨⟨(1 : Int32), (), rfl, rfl, by rw [ht]; exact hP, va_K.moved hW.alike hK, hD⟩, hS.F ht⟩) hS.2.2 d_Model_isLeft_35
      · replace hR := if_n c5 hR
        refine lv_iload_n hx hb d_Model_isLeft_18 rfl (lv_at hl 0 rfl) ?_
        refine lv_bipush (v := 16) hx hb d_Model_isLeft_19 (by decide) ?_
        refine lv_icmp_eq (tgt := 30) hx hb d_Model_isLeft_21 (by decide) (fun c7 => ?_) (fun c7 => ?_)
        · replace hR := if_p c7 hR
          refine lv_iconst (v := 1) hx hb d_Model_isLeft_30 (by decide) ?_
          refine lv_goto (tgt := 35) hx hb d_Model_isLeft_31 (by decide) ?_
          obtain ⟨e1, -, e3⟩ := re_e hR
          subst e1; subst e3
          exact W.zret (v := (1 : Int32)) hx hb hr (by first | rfl | decide) (fun t ht hW => ⟨⟨(1 : Int32), (), rfl, rfl, by rw [ht]; exact hP, va_K.moved hW.alike hK, hD⟩, hS.F ht⟩) hS.2.2 d_Model_isLeft_35
        · replace hR := if_n c7 hR
          refine lv_iload_n hx hb d_Model_isLeft_24 rfl (lv_at hl 0 rfl) ?_
          refine lv_bipush (v := 17) hx hb d_Model_isLeft_25 (by decide) ?_
          refine lv_icmp_ne (tgt := 34) hx hb d_Model_isLeft_27 (by decide) (fun c9 => ?_) (fun c9 => ?_)
          · replace hR := if_n c9 hR
            refine lv_iconst (v := 0) hx hb d_Model_isLeft_34 (by decide) ?_
            obtain ⟨e1, -, e3⟩ := re_e hR
            subst e1; subst e3
            exact W.zret (v := (0 : Int32)) hx hb hr (by first | rfl | decide) (fun t ht hW => ⟨⟨(0 : Int32), (), rfl, rfl, by rw [ht]; exact hP, va_K.moved hW.alike hK, hD⟩, hS.F ht⟩) hS.2.2 d_Model_isLeft_35
          · replace hR := if_p c9 hR
            refine lv_iconst (v := 1) hx hb d_Model_isLeft_30 (by decide) ?_
            refine lv_goto (tgt := 35) hx hb d_Model_isLeft_31 (by decide) ?_
            obtain ⟨e1, -, e3⟩ := re_e hR
            subst e1; subst e3
            exact W.zret (v := (1 : Int32)) hx hb hr (by first | rfl | decide) (fun t ht hW => ⟨⟨(1 : Int32), (), rfl, rfl, by rw [ht]; exact hP, va_K.moved hW.alike hK, hD⟩, hS.F ht⟩) hS.2.2 d_Model_isLeft_35
set_option maxHeartbeats 4000000 in
set_option maxRecDepth 100000 in
theorem sp_Model_check (l : Launch) (dC : Nat → ClassId) (dI : Nat → Nat → Nat) (ea ev ad : Nat → Nat) (km : Nat → ClassId) (F : gF) (nf d : Nat) (h_Model_bad : mt_Model_bad l dC dI ea ev ad km F d) (h_Model_isLeft : mt_Model_isLeft l dC dI ea ev ad km F d) (h_Model_checkKind : mt_Model_checkKind l dC dI ea ev ad km F d) (T0 : gSt) (p1 : Int32) (r0 : Int32) (rl0 : Int64) (T9 : gSt) (hR : rb_Model_check F nf T0 p1 = some (r0, rl0, T9)) : GMi l dC dI LM ad km ea ev y_Model_check w_Model_check (rmD (d + 1)) [.ref (ad 0), .int p1] T0 r0 T9 := by
  intro sz
  refine Met.ofW (cc := b_Model_check) (maxL := 5) (ret := (some .int)) (by decide) rfl ?_
  intro p e s m args below meth c s₁ B hml hv
  obtain ⟨rfl, hsz, hP, hK, hD0, hnw, henv⟩ := hv
  have hx := B.exec
  have hb := B.bytes
  have hr := B.returns
  have hT : ∀ w ∈ lw_good, w.before _ s = true := fun w h => atoms_spec (ws := w_Model_check) B.pre w (List.mem_cons_of_mem _ h)
  have hown : s.vm.findClass R_Model = some m.cls := findClass_of_methodNamed B.named
  subst hsz
  have hD := hD0.self (sz := s.heap.size)
  clear hD0
  generalize hAe : va_A (gW LM ad km T0) s.heap.size = A at hD henv ⊢
  have hA : ∀ q : Nat, s.heap.size ≤ q → A q := fun q h => by rw [← hAe]; exact Or.inr h
  have hS : va_S A s.heap s.heap [] := va_S.rf
  have hl := lv_entry ([.ref (ad 0), .int p1]) (n := 5) (Nat.le_of_ble_eq_true rfl)
  rw [lg_entry_eq]
  generalize (lg_sl ([.ref (ad 0), .int p1]) ++ List.replicate (5 - (lg_sl ([.ref (ad 0), .int p1])).length) Slot.unset).toArray = ls at hl ⊢
  have hl : lv_has ls 5 [(0, .ref (ad 0)), (1, .int p1)] := hl
  obtain ⟨G, hG⟩ : ∃ G : Nat → List (Nat × Value) → List Value → gSt → Prop, G = (fun pc lv stk T => ∀ (H : Heap) (locs : List Loc), va_P (dC, dI) cls_all (gW LM ad km T) H → va_D A (gW LM ad km T) → va_S A s.heap H locs → ∀ (ls : Array Slot), lv_has ls 5 lv → W p l e (headSpec w_Model_check (rmD (d + 1))).room s m ([.ref (ad 0), .int p1] : List Value).toArray below meth c H locs 0 0 (MQ below (va_Qi (fun (z : Int32) (_ : Unit) => z = r0) (fun _ t => gPost dC dI LM ad km T9 A t) A) ([.ref (ad 0), .int p1] : List Value).toArray s 0 0 A) (F0 m pc ls stk)) := ⟨_, rfl⟩
  have lb_69 : ∀ (n : Nat) (T : gSt) (x1 : Int32) (x2 : Int32), rl_Model_check_69 F nf n T x1 x2 = some (r0, rl0, T9) → G 69 [(0, .ref (ad 0)), (1, .int x1), (2, .int x2)] [] T := by
    intro n
    induction n with
    | zero => intro T x1 x2 hR; rw [rl_Model_check_69] at hR; cases hR
    | succ n ih =>
      intro T x1 x2 hR; rw [rl_Model_check_69] at hR; rw [hG]; intro H locs hP hD hS ls hl
      refine lv_aload_n hx hb d_Model_check_69 rfl (lv_at hl 0 rfl) ?_
      refine rd_Model_717 hx hb hT hown hK hP d_Model_check_70 ?_
      refine lv_iload_n hx hb d_Model_check_73 rfl (lv_at hl 2 rfl) ?_
      refine lv_icmp_le (tgt := 121) hx hb d_Model_check_74 (by decide) (fun c14 => ?_) (fun c14 => ?_)
      · replace hR := if_p c14 hR
        refine lv_aload_n hx hb d_Model_check_121 rfl (lv_at hl 0 rfl) ?_
        refine lv_iload_n hx hb d_Model_check_122 rfl (lv_at hl 2 rfl) ?_
        refine wr_Model_717 hx hb hT hown hK hP hD hS d_Model_check_123 (fun T15 eT H locs hP hD hS => ?_)
        replace hR := stK_e eT hR
        clear eT
        refine lv_aload_n hx hb d_Model_check_126 rfl (lv_at hl 0 rfl) ?_
        replace hR := bi_e hR
        obtain ⟨r16, l16, T16, hc16, hR⟩ := hR
        refine gcV_i (rest := []) ⟨hx, hb, hml, hown, hT⟩ (h_Model_bad _ _ _ _ hc16) (cwV 0 hT (gV ml_Model_385 im_Model_bad se_Model_bad ini_Model co_Model_bad) rfl rfl rfl pd_Model_bad ⟨rm_hi, rm_lo (Nat.le_of_ble_eq_true rfl)⟩) hK hP hD hS hA hnw henv (Nat.le_of_ble_eq_true rfl) rfl rfl hl.1 rfl (Nat.le_of_ble_eq_true rfl) d_Model_check_127 ⟨Nat.le_refl _, Nat.le_refl _⟩ (fun H locs hP hD hS => ?_)
        clear hc16
        refine lv_if_eq (tgt := 137) hx hb d_Model_check_130 (by decide) (fun c17 => ?_) (fun c17 => ?_)
        · replace hR := if_p c17 hR
          refine lv_aload_n hx hb d_Model_check_137 rfl (lv_at hl 0 rfl) ?_
          refine rd_Model_150 hx hb hT hown hK hP d_Model_check_138 ?_
          refine lv_iload_n hx hb d_Model_check_141 rfl (lv_at hl 1 rfl) ?_
          replace hR := gd_e hR
          obtain ⟨b18, hR⟩ := hR
          refine laM_45 hx hb hK hP b18 d_Model_check_142 ?_
          obtain ⟨e1, -, e3⟩ := re_e hR
          subst e1; subst e3
          exact W.iret (v := T16.1 60 x1.toNatClampNeg) hx hb hr (fun t ht hW => ⟨⟨T16.1 60 x1.toNatClampNeg, (), rfl, rfl, by rw [ht]; exact hP, va_K.moved hW.alike hK, hD⟩, hS.F ht⟩) hS.2.2 d_Model_check_143
        · replace hR := if_n c17 hR
          refine lv_iconst (v := 0) hx hb d_Model_check_133 (by decide) ?_
          refine lv_goto (tgt := 143) hx hb d_Model_check_134 (by decide) ?_
          obtain ⟨e1, -, e3⟩ := re_e hR
          subst e1; subst e3
          exact W.iret (v := (0 : Int32)) hx hb hr (fun t ht hW => ⟨⟨(0 : Int32), (), rfl, rfl, by rw [ht]; exact hP, va_K.moved hW.alike hK, hD⟩, hS.F ht⟩) hS.2.2 d_Model_check_143
      · replace hR := if_n c14 hR
        refine lv_aload_n hx hb d_Model_check_77 rfl (lv_at hl 0 rfl) ?_
        replace hR := bi_e hR
        obtain ⟨r21, l21, T21, hc21, hR⟩ := hR
        refine gcV_i (rest := []) ⟨hx, hb, hml, hown, hT⟩ (h_Model_bad _ _ _ _ hc21) (cwV 0 hT (gV ml_Model_385 im_Model_bad se_Model_bad ini_Model co_Model_bad) rfl rfl rfl pd_Model_bad ⟨rm_hi, rm_lo (Nat.le_of_ble_eq_true rfl)⟩) hK hP hD hS hA hnw henv (Nat.le_of_ble_eq_true rfl) rfl rfl hl.1 rfl (Nat.le_of_ble_eq_true rfl) d_Model_check_78 ⟨Nat.le_refl _, Nat.le_refl _⟩ (fun H locs hP hD hS => ?_)
        clear hc21
        refine lv_if_ne (tgt := 121) hx hb d_Model_check_81 (by decide) (fun c22 => ?_) (fun c22 => ?_)
        · replace hR := if_n c22 hR
          refine lv_aload_n hx hb d_Model_check_121 rfl (lv_at hl 0 rfl) ?_
          refine lv_iload_n hx hb d_Model_check_122 rfl (lv_at hl 2 rfl) ?_
          refine wr_Model_717 hx hb hT hown hK hP hD hS d_Model_check_123 (fun T23 eT H locs hP hD hS => ?_)
          replace hR := stK_e eT hR
          clear eT
          refine lv_aload_n hx hb d_Model_check_126 rfl (lv_at hl 0 rfl) ?_
          replace hR := bi_e hR
          obtain ⟨r24, l24, T24, hc24, hR⟩ := hR
          refine gcV_i (rest := []) ⟨hx, hb, hml, hown, hT⟩ (h_Model_bad _ _ _ _ hc24) (cwV 0 hT (gV ml_Model_385 im_Model_bad se_Model_bad ini_Model co_Model_bad) rfl rfl rfl pd_Model_bad ⟨rm_hi, rm_lo (Nat.le_of_ble_eq_true rfl)⟩) hK hP hD hS hA hnw henv (Nat.le_of_ble_eq_true rfl) rfl rfl hl.1 rfl (Nat.le_of_ble_eq_true rfl) d_Model_check_127 ⟨Nat.le_refl _, Nat.le_refl _⟩ (fun H locs hP hD hS => ?_)
          clear hc24
          refine lv_if_eq (tgt := 137) hx hb d_Model_check_130 (by decide) (fun c25 => ?_) (fun c25 => ?_)
          · replace hR := if_p c25 hR
            refine lv_aload_n hx hb d_Model_check_137 rfl (lv_at hl 0 rfl) ?_
            refine rd_Model_150 hx hb hT hown hK hP d_Model_check_138 ?_
            refine lv_iload_n hx hb d_Model_check_141 rfl (lv_at hl 1 rfl) ?_
            replace hR := gd_e hR
            obtain ⟨b26, hR⟩ := hR
            refine laM_45 hx hb hK hP b26 d_Model_check_142 ?_
            obtain ⟨e1, -, e3⟩ := re_e hR
            subst e1; subst e3
            exact W.iret (v := T24.1 60 x1.toNatClampNeg) hx hb hr (fun t ht hW => ⟨⟨T24.1 60 x1.toNatClampNeg, (), rfl, rfl, by rw [ht]; exact hP, va_K.moved hW.alike hK, hD⟩, hS.F ht⟩) hS.2.2 d_Model_check_143
          · replace hR := if_n c25 hR
            refine lv_iconst (v := 0) hx hb d_Model_check_133 (by decide) ?_
            refine lv_goto (tgt := 143) hx hb d_Model_check_134 (by decide) ?_
            obtain ⟨e1, -, e3⟩ := re_e hR
            subst e1; subst e3
            exact W.iret (v := (0 : Int32)) hx hb hr (fun t ht hW => ⟨⟨(0 : Int32), (), rfl, rfl, by rw [ht]; exact hP, va_K.moved hW.alike hK, hD⟩, hS.F ht⟩) hS.2.2 d_Model_check_143
        · replace hR := if_p c22 hR
          refine lv_aload_n hx hb d_Model_check_84 rfl (lv_at hl 0 rfl) ?_
          refine lv_dup hx hb d_Model_check_85 rfl ?_
          refine rd_Model_717 hx hb hT hown hK hP d_Model_check_86 ?_
          refine lv_iconst (v := 1) hx hb d_Model_check_89 (by decide) ?_
          refine lv_isub hx hb d_Model_check_90 ?_
          refine wr_Model_717 hx hb hT hown hK hP hD hS d_Model_check_91 (fun T29 eT H locs hP hD hS => ?_)
          replace hR := stK_e eT hR
          clear eT
          refine lv_aload_n hx hb d_Model_check_94 rfl (lv_at hl 0 rfl) ?_
          refine rd_Model_192 hx hb hT hown hK hP d_Model_check_95 ?_
          refine lv_aload_n hx hb d_Model_check_98 rfl (lv_at hl 0 rfl) ?_
          refine rd_Model_717 hx hb hT hown hK hP d_Model_check_99 ?_
          replace hR := gd_e hR
          obtain ⟨b30, hR⟩ := hR
          refine laM_59 hx hb hK hP b30 d_Model_check_102 ?_
          refine lv_topi (fun z31 e31 => ?_)
          replace hR := vK_e e31 hR
          refine lv_istore (lv' := [(4, .int z31), (0, .ref (ad 0)), (1, .int x1), (2, .int x2)]) hx hb d_Model_check_103 hl (by decide) rfl (fun ls hl => ?_)
          refine lv_aload_n hx hb d_Model_check_105 rfl (lv_at hl 1 rfl) ?_
          refine rd_Model_150 hx hb hT hown hK hP d_Model_check_106 ?_
          refine lv_iload hx hb d_Model_check_109 (lv_at hl 0 rfl) ?_
          refine lv_aload_n hx hb d_Model_check_111 rfl (lv_at hl 1 rfl) ?_
          refine lv_iload hx hb d_Model_check_112 (lv_at hl 0 rfl) ?_
          replace hR := bi_e hR
          obtain ⟨r32, l32, T32, hc32, hR⟩ := hR
          refine gcV_i (rest := [.int z31, .ref (ad 46)]) ⟨hx, hb, hml, hown, hT⟩ (h_Model_checkKind _ _ _ _ _ hc32) (cwV 1 hT (gV ml_Model_723 im_Model_checkKind se_Model_checkKind ini_Model co_Model_checkKind) rfl rfl rfl pd_Model_checkKind ⟨rm_hi, rm_lo (Nat.le_of_ble_eq_true rfl)⟩) hK hP hD hS hA hnw henv (Nat.le_of_ble_eq_true rfl) rfl rfl hl.1 rfl (Nat.le_of_ble_eq_true rfl) d_Model_check_114 ⟨Nat.le_refl _, Nat.le_refl _⟩ (fun H locs hP hD hS => ?_)
          clear hc32
          replace hR := gd_e hR
          obtain ⟨b33, hR⟩ := hR
          refine saM_45 hx hb hK hP hD hS b33 d_Model_check_117 (fun T33 eT H locs hP hD hS => ?_)
          replace hR := stK_e eT hR
          clear eT
          refine lv_goto (tgt := 69) hx hb d_Model_check_118 (by decide) ?_
          have g := ih T33 x1 x2 hR
          rw [hG] at g
          exact g _ _ hP hD hS _ (lv_sub hl [1, 2, 3] rfl)
  have lb_16 : ∀ (n : Nat) (T : gSt) (x1 : Int32) (x2 : Int32) (x3 : Int32), rl_Model_check_16 F nf n T x1 x2 x3 = some (r0, rl0, T9) → G 16 [(0, .ref (ad 0)), (1, .int x1), (2, .int x2), (3, .int x3)] [] T := by
    intro n
    induction n with
    | zero => intro T x1 x2 x3 hR; rw [rl_Model_check_16] at hR; cases hR
    | succ n ih =>
      intro T x1 x2 x3 hR; rw [rl_Model_check_16] at hR; rw [hG]; intro H locs hP hD hS ls hl
      refine lv_aload_n hx hb d_Model_check_16 rfl (lv_at hl 0 rfl) ?_
      refine rd_Model_120 hx hb hT hown hK hP d_Model_check_17 ?_
      refine lv_iload_n hx hb d_Model_check_20 rfl (lv_at hl 3 rfl) ?_
      replace hR := gd_e hR
      obtain ⟨b5, hR⟩ := hR
      refine laM_35 hx hb hK hP b5 d_Model_check_21 ?_
      replace hR := bi_e hR
      obtain ⟨r6, l6, T6, hc6, hR⟩ := hR
      refine gcS_i (rest := []) ⟨hx, hb, hml, hown, hT⟩ (h_Model_isLeft _ _ _ _ _ hc6) (va_cwS 1 hT (gS ml_Model_720 st_Model_isLeft ini_Model co_Model_isLeft) rfl rfl rfl pd_Model_isLeft ⟨rm_hi, rm_lo (Nat.le_of_ble_eq_true rfl)⟩) hK hP hD hS hA hnw henv rfl hl.1 rfl (Nat.le_of_ble_eq_true rfl) d_Model_check_22 ⟨Nat.le_refl _, Nat.le_refl _⟩ (fun H locs hP hD hS => ?_)
      clear hc6
      refine lv_if_eq (tgt := 58) hx hb d_Model_check_25 (by decide) (fun c7 => ?_) (fun c7 => ?_)
      · replace hR := if_p c7 hR
        refine lv_aload_n hx hb d_Model_check_58 rfl (lv_at hl 0 rfl) ?_
        refine rd_Model_150 hx hb hT hown hK hP d_Model_check_59 ?_
        refine lv_iload_n hx hb d_Model_check_62 rfl (lv_at hl 3 rfl) ?_
        refine lv_aload_n hx hb d_Model_check_63 rfl (lv_at hl 0 rfl) ?_
        refine lv_iload_n hx hb d_Model_check_64 rfl (lv_at hl 3 rfl) ?_
        replace hR := bi_e hR
        obtain ⟨r8, l8, T8, hc8, hR⟩ := hR
        refine gcV_i (rest := [.int x3, .ref (ad 46)]) ⟨hx, hb, hml, hown, hT⟩ (h_Model_checkKind _ _ _ _ _ hc8) (cwV 1 hT (gV ml_Model_723 im_Model_checkKind se_Model_checkKind ini_Model co_Model_checkKind) rfl rfl rfl pd_Model_checkKind ⟨rm_hi, rm_lo (Nat.le_of_ble_eq_true rfl)⟩) hK hP hD hS hA hnw henv (Nat.le_of_ble_eq_true rfl) rfl rfl hl.1 rfl (Nat.le_of_ble_eq_true rfl) d_Model_check_65 ⟨Nat.le_refl _, Nat.le_refl _⟩ (fun H locs hP hD hS => ?_)
        clear hc8
        replace hR := gd_e hR
        obtain ⟨b9, hR⟩ := hR
        refine saM_45 hx hb hK hP hD hS b9 d_Model_check_68 (fun T9 eT H locs hP hD hS => ?_)
        replace hR := stK_e eT hR
        clear eT
        have g := lb_69 nf T9 x1 x2 hR
        rw [hG] at g
        exact g _ _ hP hD hS _ (lv_sub hl [0, 1, 2] rfl)
      · replace hR := if_n c7 hR
        refine lv_aload_n hx hb d_Model_check_28 rfl (lv_at hl 0 rfl) ?_
        refine rd_Model_192 hx hb hT hown hK hP d_Model_check_29 ?_
        refine lv_aload_n hx hb d_Model_check_32 rfl (lv_at hl 0 rfl) ?_
        refine rd_Model_717 hx hb hT hown hK hP d_Model_check_33 ?_
        refine lv_iload_n hx hb d_Model_check_36 rfl (lv_at hl 3 rfl) ?_
        replace hR := gd_e hR
        obtain ⟨b10, hR⟩ := hR
        refine saM_59 hx hb hK hP hD hS b10 d_Model_check_37 (fun T10 eT H locs hP hD hS => ?_)
        replace hR := stK_e eT hR
        clear eT
        refine lv_aload_n hx hb d_Model_check_38 rfl (lv_at hl 0 rfl) ?_
        refine lv_dup hx hb d_Model_check_39 rfl ?_
        refine rd_Model_717 hx hb hT hown hK hP d_Model_check_40 ?_
        refine lv_iconst (v := 1) hx hb d_Model_check_43 (by decide) ?_
        refine lv_iadd hx hb d_Model_check_44 ?_
        refine wr_Model_717 hx hb hT hown hK hP hD hS d_Model_check_45 (fun T11 eT H locs hP hD hS => ?_)
        replace hR := stK_e eT hR
        clear eT
        refine lv_aload_n hx hb d_Model_check_48 rfl (lv_at hl 0 rfl) ?_
        refine rd_Model_126 hx hb hT hown hK hP d_Model_check_49 ?_
        refine lv_iload_n hx hb d_Model_check_52 rfl (lv_at hl 3 rfl) ?_
        replace hR := gd_e hR
        obtain ⟨b12, hR⟩ := hR
        refine laM_37 hx hb hK hP b12 d_Model_check_53 ?_
        refine lv_topi (fun z13 e13 => ?_)
        replace hR := vK_e e13 hR
        refine lv_istore_n (lv' := [(3, .int z13), (0, .ref (ad 0)), (1, .int x1), (2, .int x2)]) hx hb d_Model_check_54 rfl hl (by decide) rfl (fun ls hl => ?_)
        refine lv_goto (tgt := 16) hx hb d_Model_check_55 (by decide) ?_
        have g := ih T11 x1 x2 z13 hR
        rw [hG] at g
        exact g _ _ hP hD hS _ (lv_sub hl [1, 2, 3, 0] rfl)
  unfold rb_Model_check at hR
  refine lv_aload_n hx hb d_Model_check_0 rfl (lv_at hl 0 rfl) ?_
  replace hR := bi_e hR
  obtain ⟨r1, l1, T1, hc1, hR⟩ := hR
  refine gcV_i (rest := []) ⟨hx, hb, hml, hown, hT⟩ (h_Model_bad _ _ _ _ hc1) (cwV 0 hT (gV ml_Model_385 im_Model_bad se_Model_bad ini_Model co_Model_bad) rfl rfl rfl pd_Model_bad ⟨rm_hi, rm_lo (Nat.le_of_ble_eq_true rfl)⟩) hK hP hD hS hA hnw henv (Nat.le_of_ble_eq_true rfl) rfl rfl hl.1 rfl (Nat.le_of_ble_eq_true rfl) d_Model_check_1 ⟨Nat.le_refl _, Nat.le_refl _⟩ (fun H locs hP hD hS => ?_)
  clear hc1
  refine lv_if_eq (tgt := 9) hx hb d_Model_check_4 (by decide) (fun c2 => ?_) (fun c2 => ?_)
  · replace hR := if_p c2 hR
    refine lv_aload_n hx hb d_Model_check_9 rfl (lv_at hl 0 rfl) ?_
    refine rd_Model_717 hx hb hT hown hK hP d_Model_check_10 ?_
    refine lv_topi (fun z3 e3 => ?_)
    replace hR := vK_e e3 hR
    refine lv_istore_n (lv' := [(2, .int z3), (0, .ref (ad 0)), (1, .int p1)]) hx hb d_Model_check_13 rfl hl (by decide) rfl (fun ls hl => ?_)
    refine lv_iload_n hx hb d_Model_check_14 rfl (lv_at hl 2 rfl) ?_
    refine lv_istore_n (lv' := [(3, .int p1), (2, .int z3), (0, .ref (ad 0)), (1, .int p1)]) hx hb d_Model_check_15 rfl hl (by decide) rfl (fun ls hl => ?_)
    have g := lb_16 nf T1 p1 z3 p1 hR
    rw [hG] at g
    exact g _ _ hP hD hS _ (lv_sub hl [2, 3, 1, 0] rfl)
  · replace hR := if_n c2 hR
    refine lv_iconst (v := 0) hx hb d_Model_check_7 (by decide) ?_
    obtain ⟨e1, -, e3⟩ := re_e hR
    subst e1; subst e3
    exact W.iret (v := (0 : Int32)) hx hb hr (fun t ht hW => ⟨⟨(0 : Int32), (), rfl, rfl, by rw [ht]; exact hP, va_K.moved hW.alike hK, hD⟩, hS.F ht⟩) hS.2.2 d_Model_check_8
set_option maxHeartbeats 4000000 in
set_option maxRecDepth 100000 in
theorem sp_Model_checkKind (l : Launch) (dC : Nat → ClassId) (dI : Nat → Nat → Nat) (ea ev ad : Nat → Nat) (km : Nat → ClassId) (F : gF) (nf d : Nat) (h_Model_fail : mt_Model_fail l dC dI ea ev ad km F d) (h_Model_checkName : mt_Model_checkName l dC dI ea ev ad km F d) (h_Model_checkCall : mt_Model_checkCall l dC dI ea ev ad km F d) (h_Model_checkNew : mt_Model_checkNew l dC dI ea ev ad km F d) (h_Model_checkMade : mt_Model_checkMade l dC dI ea ev ad km F d) (h_Model_checkAnd : mt_Model_checkAnd l dC dI ea ev ad km F d) (h_Model_check : mt_Model_check l dC dI ea ev ad km F d) (h_Model_bad : mt_Model_bad l dC dI ea ev ad km F d) (h_Model_isPointer : mt_Model_isPointer l dC dI ea ev ad km F d) (h_Model_isRow : mt_Model_isRow l dC dI ea ev ad km F d) (h_Model_checkOperator : mt_Model_checkOperator l dC dI ea ev ad km F d) (h_Model_checkThrough : mt_Model_checkThrough l dC dI ea ev ad km F d) (h_Model_checkIndex : mt_Model_checkIndex l dC dI ea ev ad km F d) (h_Model_known : mt_Model_known l dC dI ea ev ad km F d) (T0 : gSt) (p1 : Int32) (r0 : Int32) (rl0 : Int64) (T9 : gSt) (hR : rb_Model_checkKind F nf T0 p1 = some (r0, rl0, T9)) : GMi l dC dI LM ad km ea ev y_Model_checkKind w_Model_checkKind (rmD (d + 1)) [.ref (ad 0), .int p1] T0 r0 T9 := by
  intro sz
  refine Met.ofW (cc := b_Model_checkKind) (maxL := 3) (ret := (some .int)) (by decide) rfl ?_
  intro p e s m args below meth c s₁ B hml hv
  obtain ⟨rfl, hsz, hP, hK, hD0, hnw, henv⟩ := hv
  have hx := B.exec
  have hb := B.bytes
  have hr := B.returns
  have hT : ∀ w ∈ lw_good, w.before _ s = true := fun w h => atoms_spec (ws := w_Model_checkKind) B.pre w (List.mem_cons_of_mem _ h)
  have hown : s.vm.findClass R_Model = some m.cls := findClass_of_methodNamed B.named
  subst hsz
  have hD := hD0.self (sz := s.heap.size)
  clear hD0
  generalize hAe : va_A (gW LM ad km T0) s.heap.size = A at hD henv ⊢
  have hA : ∀ q : Nat, s.heap.size ≤ q → A q := fun q h => by rw [← hAe]; exact Or.inr h
  have hS : va_S A s.heap s.heap [] := va_S.rf
  have hl := lv_entry ([.ref (ad 0), .int p1]) (n := 3) (Nat.le_of_ble_eq_true rfl)
  rw [lg_entry_eq]
  generalize (lg_sl ([.ref (ad 0), .int p1]) ++ List.replicate (3 - (lg_sl ([.ref (ad 0), .int p1])).length) Slot.unset).toArray = ls at hl ⊢
  have hl : lv_has ls 3 [(0, .ref (ad 0)), (1, .int p1)] := hl
  obtain ⟨G, hG⟩ : ∃ G : Nat → List (Nat × Value) → List Value → gSt → Prop, G = (fun pc lv stk T => ∀ (H : Heap) (locs : List Loc), va_P (dC, dI) cls_all (gW LM ad km T) H → va_D A (gW LM ad km T) → va_S A s.heap H locs → ∀ (ls : Array Slot), lv_has ls 3 lv → W p l e (headSpec w_Model_checkKind (rmD (d + 1))).room s m ([.ref (ad 0), .int p1] : List Value).toArray below meth c H locs 0 0 (MQ below (va_Qi (fun (z : Int32) (_ : Unit) => z = r0) (fun _ t => gPost dC dI LM ad km T9 A t) A) ([.ref (ad 0), .int p1] : List Value).toArray s 0 0 A) (F0 m pc ls stk)) := ⟨_, rfl⟩
  have lb_221 : ∀ (T : gSt) (x2 : Int32) (y0 : Int32) (y1 : Int32), rj_Model_checkKind_221 F nf T x2 y0 y1 = some (r0, rl0, T9) → G 221 [(0, .ref (ad 0)), (2, .int x2)] [.int y0, .int y1, .ref (ad 0)] T := by
    intro T x2 y0 y1 hR; unfold rj_Model_checkKind_221 at hR; rw [hG]; intro H locs hP hD hS ls hl
    refine lv_iadd hx hb d_Model_checkKind_221 ?_
    refine wr_Model_741 hx hb hT hown hK hP hD hS d_Model_checkKind_222 (fun T77 eT H locs hP hD hS => ?_)
    replace hR := stK_e eT hR
    clear eT
    refine lv_aload_n hx hb d_Model_checkKind_225 rfl (lv_at hl 0 rfl) ?_
    refine lv_iconst (v := 1) hx hb d_Model_checkKind_226 (by decide) ?_
    refine lv_aload_n hx hb d_Model_checkKind_227 rfl (lv_at hl 0 rfl) ?_
    refine rd_Model_159 hx hb hT hown hK hP d_Model_checkKind_228 ?_
    refine lv_iload_n hx hb d_Model_checkKind_231 rfl (lv_at hl 1 rfl) ?_
    replace hR := gd_e hR
    obtain ⟨b78, hR⟩ := hR
    refine laM_48 hx hb hK hP b78 d_Model_checkKind_232 ?_
    refine lv_aload_n hx hb d_Model_checkKind_233 rfl (lv_at hl 0 rfl) ?_
    refine rd_Model_162 hx hb hT hown hK hP d_Model_checkKind_234 ?_
    refine lv_iload_n hx hb d_Model_checkKind_237 rfl (lv_at hl 1 rfl) ?_
    replace hR := gd_e hR
    obtain ⟨b79, hR⟩ := hR
    refine laM_49 hx hb hK hP b79 d_Model_checkKind_238 ?_
    refine lv_aload_n hx hb d_Model_checkKind_239 rfl (lv_at hl 0 rfl) ?_
    refine rd_Model_165 hx hb hT hown hK hP d_Model_checkKind_240 ?_
    refine lv_iload_n hx hb d_Model_checkKind_243 rfl (lv_at hl 1 rfl) ?_
    replace hR := gd_e hR
    obtain ⟨b80, hR⟩ := hR
    refine laM_50 hx hb hK hP b80 d_Model_checkKind_244 ?_
    refine lv_aload_n hx hb d_Model_checkKind_245 rfl (lv_at hl 0 rfl) ?_
    refine rd_Model_168 hx hb hT hown hK hP d_Model_checkKind_246 ?_
    refine lv_iload_n hx hb d_Model_checkKind_249 rfl (lv_at hl 1 rfl) ?_
    replace hR := gd_e hR
    obtain ⟨b81, hR⟩ := hR
    refine laM_51 hx hb hK hP b81 d_Model_checkKind_250 ?_
    replace hR := bi_e hR
    obtain ⟨r82, l82, T82, hc82, hR⟩ := hR
    refine gcV_i (rest := []) ⟨hx, hb, hml, hown, hT⟩ (h_Model_known _ _ _ _ _ _ _ _ _ hc82) (cwV 5 hT (gV ml_Model_556 im_Model_known se_Model_known ini_Model co_Model_known) rfl rfl rfl pd_Model_known ⟨rm_hi, rm_lo (Nat.le_of_ble_eq_true rfl)⟩) hK hP hD hS hA hnw henv (Nat.le_of_ble_eq_true rfl) rfl rfl hl.1 rfl (Nat.le_of_ble_eq_true rfl) d_Model_checkKind_251 ⟨Nat.le_refl _, Nat.le_refl _⟩ (fun H locs hP hD hS => ?_)
    clear hc82
    obtain ⟨e1, -, e3⟩ := re_e hR
    subst e1; subst e3
    exact W.iret (v := r82) hx hb hr (fun t ht hW => ⟨⟨r82, (), rfl, rfl, by rw [ht]; exact hP, va_K.moved hW.alike hK, hD⟩, hS.F ht⟩) hS.2.2 d_Model_checkKind_254
  have lb_192 : ∀ (T : gSt) (x2 : Int32), rj_Model_checkKind_192 F nf T x2 = some (r0, rl0, T9) → G 192 [(0, .ref (ad 0)), (2, .int x2)] [] T := by
    intro T x2 hR; unfold rj_Model_checkKind_192 at hR; rw [hG]; intro H locs hP hD hS ls hl
    refine lv_aload_n hx hb d_Model_checkKind_192 rfl (lv_at hl 0 rfl) ?_
    replace hR := bi_e hR
    obtain ⟨r72, l72, T72, hc72, hR⟩ := hR
    refine gcV_i (rest := []) ⟨hx, hb, hml, hown, hT⟩ (h_Model_bad _ _ _ _ hc72) (cwV 0 hT (gV ml_Model_385 im_Model_bad se_Model_bad ini_Model co_Model_bad) rfl rfl rfl pd_Model_bad ⟨rm_hi, rm_lo (Nat.le_of_ble_eq_true rfl)⟩) hK hP hD hS hA hnw henv (Nat.le_of_ble_eq_true rfl) rfl rfl hl.1 rfl (Nat.le_of_ble_eq_true rfl) d_Model_checkKind_193 ⟨Nat.le_refl _, Nat.le_refl _⟩ (fun H locs hP hD hS => ?_)
    clear hc72
    refine lv_if_eq (tgt := 201) hx hb d_Model_checkKind_196 (by decide) (fun c73 => ?_) (fun c73 => ?_)
    · replace hR := if_p c73 hR
      refine lv_aload_n hx hb d_Model_checkKind_201 rfl (lv_at hl 0 rfl) ?_
      refine lv_dup hx hb d_Model_checkKind_202 rfl ?_
      refine rd_Model_741 hx hb hT hown hK hP d_Model_checkKind_203 ?_
      refine lv_aload_n hx hb d_Model_checkKind_206 rfl (lv_at hl 0 rfl) ?_
      refine rd_Model_156 hx hb hT hown hK hP d_Model_checkKind_207 ?_
      refine lv_iload_n hx hb d_Model_checkKind_210 rfl (lv_at hl 1 rfl) ?_
      replace hR := gd_e hR
      obtain ⟨b74, hR⟩ := hR
      refine laM_47 hx hb hK hP b74 d_Model_checkKind_211 ?_
      refine lv_iconst (v := 2) hx hb d_Model_checkKind_212 (by decide) ?_
      refine lv_icmp_ne (tgt := 220) hx hb d_Model_checkKind_213 (by decide) (fun c75 => ?_) (fun c75 => ?_)
      · replace hR := if_n c75 hR
        refine lv_iconst (v := 0) hx hb d_Model_checkKind_220 (by decide) ?_
        have g := lb_221 T72 x2 (0 : Int32) (T72.1 88 0) hR
        rw [hG] at g
        exact g _ _ hP hD hS _ (lv_sub hl [0, 1] rfl)
      · replace hR := if_p c75 hR
        refine lv_iconst (v := 1) hx hb d_Model_checkKind_216 (by decide) ?_
        refine lv_goto (tgt := 221) hx hb d_Model_checkKind_217 (by decide) ?_
        have g := lb_221 T72 x2 (1 : Int32) (T72.1 88 0) hR
        rw [hG] at g
        exact g _ _ hP hD hS _ (lv_sub hl [0, 1] rfl)
    · replace hR := if_n c73 hR
      refine lv_iconst (v := 0) hx hb d_Model_checkKind_199 (by decide) ?_
      obtain ⟨e1, -, e3⟩ := re_e hR
      subst e1; subst e3
      exact W.iret (v := (0 : Int32)) hx hb hr (fun t ht hW => ⟨⟨(0 : Int32), (), rfl, rfl, by rw [ht]; exact hP, va_K.moved hW.alike hK, hD⟩, hS.F ht⟩) hS.2.2 d_Model_checkKind_200
  unfold rb_Model_checkKind at hR
  refine lv_aload_n hx hb d_Model_checkKind_0 rfl (lv_at hl 0 rfl) ?_
  refine rd_Model_120 hx hb hT hown hK hP d_Model_checkKind_1 ?_
  refine lv_iload_n hx hb d_Model_checkKind_4 rfl (lv_at hl 1 rfl) ?_
  replace hR := gd_e hR
  obtain ⟨b1, hR⟩ := hR
  refine laM_35 hx hb hK hP b1 d_Model_checkKind_5 ?_
  by_cases c2 : T0.1 50 p1.toNatClampNeg = (0 : Int32)
  · replace hR := if_p c2 hR
    refine lv_tableIn (off := 78) (tgt := 84) hx hb d_Model_checkKind_6 (by rw [c2]; decide) (by rw [c2]; decide) (by rw [c2]; decide) (by decide) ?_
    refine lv_iconst (v := 0) hx hb d_Model_checkKind_84 (by decide) ?_
    obtain ⟨e1, -, e3⟩ := re_e hR
    subst e1; subst e3
    exact W.iret (v := (0 : Int32)) hx hb hr (fun t ht hW => ⟨⟨(0 : Int32), (), rfl, rfl, by rw [ht]; exact hP, va_K.moved hW.alike hK, hD⟩, hS.F ht⟩) hS.2.2 d_Model_checkKind_85
  replace hR := if_n c2 hR
  by_cases c4 : T0.1 50 p1.toNatClampNeg = (1 : Int32)
  · replace hR := if_p c4 hR
    refine lv_tableIn (off := 80) (tgt := 86) hx hb d_Model_checkKind_6 (by rw [c4]; decide) (by rw [c4]; decide) (by rw [c4]; decide) (by decide) ?_
    refine lv_bipush (v := (-2)) hx hb d_Model_checkKind_86 (by decide) ?_
    obtain ⟨e1, -, e3⟩ := re_e hR
    subst e1; subst e3
    exact W.iret (v := (-2 : Int32)) hx hb hr (fun t ht hW => ⟨⟨(-2 : Int32), (), rfl, rfl, by rw [ht]; exact hP, va_K.moved hW.alike hK, hD⟩, hS.F ht⟩) hS.2.2 d_Model_checkKind_88
  replace hR := if_n c4 hR
  by_cases c6 : T0.1 50 p1.toNatClampNeg = (2 : Int32)
  · replace hR := if_p c6 hR
    refine lv_tableIn (off := 78) (tgt := 84) hx hb d_Model_checkKind_6 (by rw [c6]; decide) (by rw [c6]; decide) (by rw [c6]; decide) (by decide) ?_
    refine lv_iconst (v := 0) hx hb d_Model_checkKind_84 (by decide) ?_
    obtain ⟨e1, -, e3⟩ := re_e hR
    subst e1; subst e3
    exact W.iret (v := (0 : Int32)) hx hb hr (fun t ht hW => ⟨⟨(0 : Int32), (), rfl, rfl, by rw [ht]; exact hP, va_K.moved hW.alike hK, hD⟩, hS.F ht⟩) hS.2.2 d_Model_checkKind_85
  replace hR := if_n c6 hR
  by_cases c8 : T0.1 50 p1.toNatClampNeg = (3 : Int32)
  · replace hR := if_p c8 hR
    refine lv_tableIn (off := 83) (tgt := 89) hx hb d_Model_checkKind_6 (by rw [c8]; decide) (by rw [c8]; decide) (by rw [c8]; decide) (by decide) ?_
    refine lv_aload_n hx hb d_Model_checkKind_89 rfl (lv_at hl 0 rfl) ?_
    refine rd_Model_640 hx hb hT hown hK hP d_Model_checkKind_90 ?_
    refine lv_if_ne (tgt := 108) hx hb d_Model_checkKind_93 (by decide) (fun c9 => ?_) (fun c9 => ?_)
    · replace hR := if_n c9 hR
      refine lv_aload_n hx hb d_Model_checkKind_108 rfl (lv_at hl 0 rfl) ?_
      refine rd_Model_153 hx hb hT hown hK hP d_Model_checkKind_109 ?_
      refine lv_iload_n hx hb d_Model_checkKind_112 rfl (lv_at hl 1 rfl) ?_
      refine lv_aload_n hx hb d_Model_checkKind_113 rfl (lv_at hl 0 rfl) ?_
      refine rd_Model_640 hx hb hT hown hK hP d_Model_checkKind_114 ?_
      replace hR := gd_e hR
      obtain ⟨b10, hR⟩ := hR
      refine saM_46 hx hb hK hP hD hS b10 d_Model_checkKind_117 (fun T10 eT H locs hP hD hS => ?_)
      replace hR := stK_e eT hR
      clear eT
      refine lv_iconst (v := 0) hx hb d_Model_checkKind_118 (by decide) ?_
      obtain ⟨e1, -, e3⟩ := re_e hR
      subst e1; subst e3
      exact W.iret (v := (0 : Int32)) hx hb hr (fun t ht hW => ⟨⟨(0 : Int32), (), rfl, rfl, by rw [ht]; exact hP, va_K.moved hW.alike hK, hD⟩, hS.F ht⟩) hS.2.2 d_Model_checkKind_119
    · replace hR := if_p c9 hR
      refine lv_aload_n hx hb d_Model_checkKind_96 rfl (lv_at hl 0 rfl) ?_
      refine lv_bipush (v := 8) hx hb d_Model_checkKind_97 (by decide) ?_
      refine lv_aload_n hx hb d_Model_checkKind_99 rfl (lv_at hl 0 rfl) ?_
      refine rd_Model_123 hx hb hT hown hK hP d_Model_checkKind_100 ?_
      refine lv_iload_n hx hb d_Model_checkKind_103 rfl (lv_at hl 1 rfl) ?_
      replace hR := gd_e hR
      obtain ⟨b12, hR⟩ := hR
      refine laM_36 hx hb hK hP b12 d_Model_checkKind_104 ?_
      replace hR := bi_e hR
      obtain ⟨r13, l13, T13, hc13, hR⟩ := hR
      refine gcV_v (rest := []) ⟨hx, hb, hml, hown, hT⟩ (h_Model_fail _ _ _ _ _ _ hc13) (cwV 2 hT (gV ml_Model_381 im_Model_fail se_Model_fail ini_Model co_Model_fail) rfl rfl rfl pd_Model_fail ⟨rm_hi, rm_lo (Nat.le_of_ble_eq_true rfl)⟩) hK hP hD hS hA hnw henv (Nat.le_of_ble_eq_true rfl) rfl rfl hl.1 rfl (Nat.le_of_ble_eq_true rfl) d_Model_checkKind_105 ⟨Nat.le_refl _, Nat.le_refl _⟩ (fun H locs hP hD hS => ?_)
      clear hc13
      refine lv_aload_n hx hb d_Model_checkKind_108 rfl (lv_at hl 0 rfl) ?_
      refine rd_Model_153 hx hb hT hown hK hP d_Model_checkKind_109 ?_
      refine lv_iload_n hx hb d_Model_checkKind_112 rfl (lv_at hl 1 rfl) ?_
      refine lv_aload_n hx hb d_Model_checkKind_113 rfl (lv_at hl 0 rfl) ?_
      refine rd_Model_640 hx hb hT hown hK hP d_Model_checkKind_114 ?_
      replace hR := gd_e hR
      obtain ⟨b14, hR⟩ := hR
      refine saM_46 hx hb hK hP hD hS b14 d_Model_checkKind_117 (fun T14 eT H locs hP hD hS => ?_)
      replace hR := stK_e eT hR
      clear eT
      refine lv_iconst (v := 0) hx hb d_Model_checkKind_118 (by decide) ?_
      obtain ⟨e1, -, e3⟩ := re_e hR
      subst e1; subst e3
      exact W.iret (v := (0 : Int32)) hx hb hr (fun t ht hW => ⟨⟨(0 : Int32), (), rfl, rfl, by rw [ht]; exact hP, va_K.moved hW.alike hK, hD⟩, hS.F ht⟩) hS.2.2 d_Model_checkKind_119
  replace hR := if_n c8 hR
  by_cases c16 : T0.1 50 p1.toNatClampNeg = (4 : Int32)
  · replace hR := if_p c16 hR
    refine lv_tableIn (off := 114) (tgt := 120) hx hb d_Model_checkKind_6 (by rw [c16]; decide) (by rw [c16]; decide) (by rw [c16]; decide) (by decide) ?_
    refine lv_aload_n hx hb d_Model_checkKind_120 rfl (lv_at hl 0 rfl) ?_
    refine lv_iload_n hx hb d_Model_checkKind_121 rfl (lv_at hl 1 rfl) ?_
    replace hR := bi_e hR
    obtain ⟨r17, l17, T17, hc17, hR⟩ := hR
    refine gcV_i (rest := []) ⟨hx, hb, hml, hown, hT⟩ (h_Model_checkName _ _ _ _ _ hc17) (cwV 1 hT (gV ml_Model_726 im_Model_checkName se_Model_checkName ini_Model co_Model_checkName) rfl rfl rfl pd_Model_checkName ⟨rm_hi, rm_lo (Nat.le_of_ble_eq_true rfl)⟩) hK hP hD hS hA hnw henv (Nat.le_of_ble_eq_true rfl) rfl rfl hl.1 rfl (Nat.le_of_ble_eq_true rfl) d_Model_checkKind_122 ⟨Nat.le_refl _, Nat.le_refl _⟩ (fun H locs hP hD hS => ?_)
    clear hc17
    obtain ⟨e1, -, e3⟩ := re_e hR
    subst e1; subst e3
    exact W.iret (v := r17) hx hb hr (fun t ht hW => ⟨⟨r17, (), rfl, rfl, by rw [ht]; exact hP, va_K.moved hW.alike hK, hD⟩, hS.F ht⟩) hS.2.2 d_Model_checkKind_125
  replace hR := if_n c16 hR
  by_cases c19 : T0.1 50 p1.toNatClampNeg = (5 : Int32)
  · replace hR := if_p c19 hR
    refine lv_tableIn (off := 120) (tgt := 126) hx hb d_Model_checkKind_6 (by rw [c19]; decide) (by rw [c19]; decide) (by rw [c19]; decide) (by decide) ?_
    refine lv_aload_n hx hb d_Model_checkKind_126 rfl (lv_at hl 0 rfl) ?_
    refine lv_iload_n hx hb d_Model_checkKind_127 rfl (lv_at hl 1 rfl) ?_
    replace hR := bi_e hR
    obtain ⟨r20, l20, T20, hc20, hR⟩ := hR
    refine gcV_i (rest := []) ⟨hx, hb, hml, hown, hT⟩ (h_Model_checkCall _ _ _ _ _ hc20) (cwV 1 hT (gV ml_Model_729 im_Model_checkCall se_Model_checkCall ini_Model co_Model_checkCall) rfl rfl rfl pd_Model_checkCall ⟨rm_hi, rm_lo (Nat.le_of_ble_eq_true rfl)⟩) hK hP hD hS hA hnw henv (Nat.le_of_ble_eq_true rfl) rfl rfl hl.1 rfl (Nat.le_of_ble_eq_true rfl) d_Model_checkKind_128 ⟨Nat.le_refl _, Nat.le_refl _⟩ (fun H locs hP hD hS => ?_)
    clear hc20
    obtain ⟨e1, -, e3⟩ := re_e hR
    subst e1; subst e3
    exact W.iret (v := r20) hx hb hr (fun t ht hW => ⟨⟨r20, (), rfl, rfl, by rw [ht]; exact hP, va_K.moved hW.alike hK, hD⟩, hS.F ht⟩) hS.2.2 d_Model_checkKind_131
  replace hR := if_n c19 hR
  by_cases c22 : T0.1 50 p1.toNatClampNeg = (6 : Int32)
  · replace hR := if_p c22 hR
    refine lv_tableIn (off := 126) (tgt := 132) hx hb d_Model_checkKind_6 (by rw [c22]; decide) (by rw [c22]; decide) (by rw [c22]; decide) (by decide) ?_
    refine lv_aload_n hx hb d_Model_checkKind_132 rfl (lv_at hl 0 rfl) ?_
    refine lv_iload_n hx hb d_Model_checkKind_133 rfl (lv_at hl 1 rfl) ?_
    replace hR := bi_e hR
    obtain ⟨r23, l23, T23, hc23, hR⟩ := hR
    refine gcV_i (rest := []) ⟨hx, hb, hml, hown, hT⟩ (h_Model_checkNew _ _ _ _ _ hc23) (cwV 1 hT (gV ml_Model_732 im_Model_checkNew se_Model_checkNew ini_Model co_Model_checkNew) rfl rfl rfl pd_Model_checkNew ⟨rm_hi, rm_lo (Nat.le_of_ble_eq_true rfl)⟩) hK hP hD hS hA hnw henv (Nat.le_of_ble_eq_true rfl) rfl rfl hl.1 rfl (Nat.le_of_ble_eq_true rfl) d_Model_checkKind_134 ⟨Nat.le_refl _, Nat.le_refl _⟩ (fun H locs hP hD hS => ?_)
    clear hc23
    obtain ⟨e1, -, e3⟩ := re_e hR
    subst e1; subst e3
    exact W.iret (v := r23) hx hb hr (fun t ht hW => ⟨⟨r23, (), rfl, rfl, by rw [ht]; exact hP, va_K.moved hW.alike hK, hD⟩, hS.F ht⟩) hS.2.2 d_Model_checkKind_137
  replace hR := if_n c22 hR
  by_cases c25 : T0.1 50 p1.toNatClampNeg = (7 : Int32)
  · replace hR := if_p c25 hR
    refine lv_tableIn (off := 126) (tgt := 132) hx hb d_Model_checkKind_6 (by rw [c25]; decide) (by rw [c25]; decide) (by rw [c25]; decide) (by decide) ?_
    refine lv_aload_n hx hb d_Model_checkKind_132 rfl (lv_at hl 0 rfl) ?_
    refine lv_iload_n hx hb d_Model_checkKind_133 rfl (lv_at hl 1 rfl) ?_
    replace hR := bi_e hR
    obtain ⟨r26, l26, T26, hc26, hR⟩ := hR
    refine gcV_i (rest := []) ⟨hx, hb, hml, hown, hT⟩ (h_Model_checkNew _ _ _ _ _ hc26) (cwV 1 hT (gV ml_Model_732 im_Model_checkNew se_Model_checkNew ini_Model co_Model_checkNew) rfl rfl rfl pd_Model_checkNew ⟨rm_hi, rm_lo (Nat.le_of_ble_eq_true rfl)⟩) hK hP hD hS hA hnw henv (Nat.le_of_ble_eq_true rfl) rfl rfl hl.1 rfl (Nat.le_of_ble_eq_true rfl) d_Model_checkKind_134 ⟨Nat.le_refl _, Nat.le_refl _⟩ (fun H locs hP hD hS => ?_)
    clear hc26
    obtain ⟨e1, -, e3⟩ := re_e hR
    subst e1; subst e3
    exact W.iret (v := r26) hx hb hr (fun t ht hW => ⟨⟨r26, (), rfl, rfl, by rw [ht]; exact hP, va_K.moved hW.alike hK, hD⟩, hS.F ht⟩) hS.2.2 d_Model_checkKind_137
  replace hR := if_n c25 hR
  by_cases c28 : T0.1 50 p1.toNatClampNeg = (8 : Int32)
  · replace hR := if_p c28 hR
    refine lv_tableIn (off := 132) (tgt := 138) hx hb d_Model_checkKind_6 (by rw [c28]; decide) (by rw [c28]; decide) (by rw [c28]; decide) (by decide) ?_
    refine lv_aload_n hx hb d_Model_checkKind_138 rfl (lv_at hl 0 rfl) ?_
    refine lv_iload_n hx hb d_Model_checkKind_139 rfl (lv_at hl 1 rfl) ?_
    replace hR := bi_e hR
    obtain ⟨r29, l29, T29, hc29, hR⟩ := hR
    refine gcV_i (rest := []) ⟨hx, hb, hml, hown, hT⟩ (h_Model_checkMade _ _ _ _ _ hc29) (cwV 1 hT (gV ml_Model_735 im_Model_checkMade se_Model_checkMade ini_Model co_Model_checkMade) rfl rfl rfl pd_Model_checkMade ⟨rm_hi, rm_lo (Nat.le_of_ble_eq_true rfl)⟩) hK hP hD hS hA hnw henv (Nat.le_of_ble_eq_true rfl) rfl rfl hl.1 rfl (Nat.le_of_ble_eq_true rfl) d_Model_checkKind_140 ⟨Nat.le_refl _, Nat.le_refl _⟩ (fun H locs hP hD hS => ?_)
    clear hc29
    obtain ⟨e1, -, e3⟩ := re_e hR
    subst e1; subst e3
    exact W.iret (v := r29) hx hb hr (fun t ht hW => ⟨⟨r29, (), rfl, rfl, by rw [ht]; exact hP, va_K.moved hW.alike hK, hD⟩, hS.F ht⟩) hS.2.2 d_Model_checkKind_143
  replace hR := if_n c28 hR
  by_cases c31 : T0.1 50 p1.toNatClampNeg = (9 : Int32)
  · replace hR := if_p c31 hR
    refine lv_tableIn (off := 132) (tgt := 138) hx hb d_Model_checkKind_6 (by rw [c31]; decide) (by rw [c31]; decide) (by rw [c31]; decide) (by decide) ?_
    refine lv_aload_n hx hb d_Model_checkKind_138 rfl (lv_at hl 0 rfl) ?_
    refine lv_iload_n hx hb d_Model_checkKind_139 rfl (lv_at hl 1 rfl) ?_
    replace hR := bi_e hR
    obtain ⟨r32, l32, T32, hc32, hR⟩ := hR
    refine gcV_i (rest := []) ⟨hx, hb, hml, hown, hT⟩ (h_Model_checkMade _ _ _ _ _ hc32) (cwV 1 hT (gV ml_Model_735 im_Model_checkMade se_Model_checkMade ini_Model co_Model_checkMade) rfl rfl rfl pd_Model_checkMade ⟨rm_hi, rm_lo (Nat.le_of_ble_eq_true rfl)⟩) hK hP hD hS hA hnw henv (Nat.le_of_ble_eq_true rfl) rfl rfl hl.1 rfl (Nat.le_of_ble_eq_true rfl) d_Model_checkKind_140 ⟨Nat.le_refl _, Nat.le_refl _⟩ (fun H locs hP hD hS => ?_)
    clear hc32
    obtain ⟨e1, -, e3⟩ := re_e hR
    subst e1; subst e3
    exact W.iret (v := r32) hx hb hr (fun t ht hW => ⟨⟨r32, (), rfl, rfl, by rw [ht]; exact hP, va_K.moved hW.alike hK, hD⟩, hS.F ht⟩) hS.2.2 d_Model_checkKind_143
  replace hR := if_n c31 hR
  by_cases c34 : T0.1 50 p1.toNatClampNeg = (10 : Int32)
  · replace hR := if_p c34 hR
    refine lv_tableIn (off := 138) (tgt := 144) hx hb d_Model_checkKind_6 (by rw [c34]; decide) (by rw [c34]; decide) (by rw [c34]; decide) (by decide) ?_
    refine lv_aload_n hx hb d_Model_checkKind_144 rfl (lv_at hl 0 rfl) ?_
    refine lv_iload_n hx hb d_Model_checkKind_145 rfl (lv_at hl 1 rfl) ?_
    replace hR := bi_e hR
    obtain ⟨r35, l35, T35, hc35, hR⟩ := hR
    refine gcV_i (rest := []) ⟨hx, hb, hml, hown, hT⟩ (h_Model_checkAnd _ _ _ _ _ hc35) (cwV 1 hT (gV ml_Model_738 im_Model_checkAnd se_Model_checkAnd ini_Model co_Model_checkAnd) rfl rfl rfl pd_Model_checkAnd ⟨rm_hi, rm_lo (Nat.le_of_ble_eq_true rfl)⟩) hK hP hD hS hA hnw henv (Nat.le_of_ble_eq_true rfl) rfl rfl hl.1 rfl (Nat.le_of_ble_eq_true rfl) d_Model_checkKind_146 ⟨Nat.le_refl _, Nat.le_refl _⟩ (fun H locs hP hD hS => ?_)
    clear hc35
    obtain ⟨e1, -, e3⟩ := re_e hR
    subst e1; subst e3
    exact W.iret (v := r35) hx hb hr (fun t ht hW => ⟨⟨r35, (), rfl, rfl, by rw [ht]; exact hP, va_K.moved hW.alike hK, hD⟩, hS.F ht⟩) hS.2.2 d_Model_checkKind_149
  replace hR := if_n c34 hR
  by_cases c37 : T0.1 50 p1.toNatClampNeg = (11 : Int32)
  · replace hR := if_p c37 hR
    refine lv_tableIn (off := 144) (tgt := 150) hx hb d_Model_checkKind_6 (by rw [c37]; decide) (by rw [c37]; decide) (by rw [c37]; decide) (by decide) ?_
    refine lv_aload_n hx hb d_Model_checkKind_150 rfl (lv_at hl 0 rfl) ?_
    refine lv_aload_n hx hb d_Model_checkKind_151 rfl (lv_at hl 0 rfl) ?_
    refine rd_Model_126 hx hb hT hown hK hP d_Model_checkKind_152 ?_
    refine lv_iload_n hx hb d_Model_checkKind_155 rfl (lv_at hl 1 rfl) ?_
    replace hR := gd_e hR
    obtain ⟨b38, hR⟩ := hR
    refine laM_37 hx hb hK hP b38 d_Model_checkKind_156 ?_
    replace hR := bi_e hR
    obtain ⟨r39, l39, T39, hc39, hR⟩ := hR
    refine gcV_i (rest := []) ⟨hx, hb, hml, hown, hT⟩ (h_Model_check _ _ _ _ _ hc39) (cwV 1 hT (gV ml_Model_652 im_Model_check se_Model_check ini_Model co_Model_check) rfl rfl rfl pd_Model_check ⟨rm_hi, rm_lo (Nat.le_of_ble_eq_true rfl)⟩) hK hP hD hS hA hnw henv (Nat.le_of_ble_eq_true rfl) rfl rfl hl.1 rfl (Nat.le_of_ble_eq_true rfl) d_Model_checkKind_157 ⟨Nat.le_refl _, Nat.le_refl _⟩ (fun H locs hP hD hS => ?_)
    clear hc39
    refine lv_istore_n (lv' := [(2, .int r39), (0, .ref (ad 0)), (1, .int p1)]) hx hb d_Model_checkKind_160 rfl hl (by decide) rfl (fun ls hl => ?_)
    refine lv_aload_n hx hb d_Model_checkKind_161 rfl (lv_at hl 1 rfl) ?_
    replace hR := bi_e hR
    obtain ⟨r40, l40, T40, hc40, hR⟩ := hR
    refine gcV_i (rest := []) ⟨hx, hb, hml, hown, hT⟩ (h_Model_bad _ _ _ _ hc40) (cwV 0 hT (gV ml_Model_385 im_Model_bad se_Model_bad ini_Model co_Model_bad) rfl rfl rfl pd_Model_bad ⟨rm_hi, rm_lo (Nat.le_of_ble_eq_true rfl)⟩) hK hP hD hS hA hnw henv (Nat.le_of_ble_eq_true rfl) rfl rfl hl.1 rfl (Nat.le_of_ble_eq_true rfl) d_Model_checkKind_162 ⟨Nat.le_refl _, Nat.le_refl _⟩ (fun H locs hP hD hS => ?_)
    clear hc40
    refine lv_if_ne (tgt := 192) hx hb d_Model_checkKind_165 (by decide) (fun c41 => ?_) (fun c41 => ?_)
    · replace hR := if_n c41 hR
      have g := lb_192 T40 r39 hR
      rw [hG] at g
      exact g _ _ hP hD hS _ (lv_sub hl [1, 0] rfl)
    · replace hR := if_p c41 hR
      refine lv_aload_n hx hb d_Model_checkKind_168 rfl (lv_at hl 1 rfl) ?_
      refine lv_iload_n hx hb d_Model_checkKind_169 rfl (lv_at hl 0 rfl) ?_
      replace hR := bi_e hR
      obtain ⟨r42, l42, T42, hc42, hR⟩ := hR
      refine gcV_i (rest := []) ⟨hx, hb, hml, hown, hT⟩ (h_Model_isPointer _ _ _ _ _ hc42) (cwV 1 hT (gV ml_Model_560 im_Model_isPointer se_Model_isPointer ini_Model co_Model_isPointer) rfl rfl rfl pd_Model_isPointer ⟨rm_hi, rm_lo (Nat.le_of_ble_eq_true rfl)⟩) hK hP hD hS hA hnw henv (Nat.le_of_ble_eq_true rfl) rfl rfl hl.1 rfl (Nat.le_of_ble_eq_true rfl) d_Model_checkKind_170 ⟨Nat.le_refl _, Nat.le_refl _⟩ (fun H locs hP hD hS => ?_)
      clear hc42
      refine lv_if_ne (tgt := 192) hx hb d_Model_checkKind_173 (by decide) (fun c43 => ?_) (fun c43 => ?_)
      · replace hR := if_n c43 hR
        have g := lb_192 T42 r39 hR
        rw [hG] at g
        exact g _ _ hP hD hS _ (lv_sub hl [1, 0] rfl)
      · replace hR := if_p c43 hR
        refine lv_aload_n hx hb d_Model_checkKind_176 rfl (lv_at hl 1 rfl) ?_
        refine lv_iconst (v := 4) hx hb d_Model_checkKind_177 (by decide) ?_
        refine lv_aload_n hx hb d_Model_checkKind_178 rfl (lv_at hl 1 rfl) ?_
        refine rd_Model_123 hx hb hT hown hK hP d_Model_checkKind_179 ?_
        refine lv_aload_n hx hb d_Model_checkKind_182 rfl (lv_at hl 1 rfl) ?_
        refine rd_Model_126 hx hb hT hown hK hP d_Model_checkKind_183 ?_
        refine lv_iload_n hx hb d_Model_checkKind_186 rfl (lv_at hl 2 rfl) ?_
        replace hR := gd_e hR
        obtain ⟨b44, hR⟩ := hR
        refine laM_37 hx hb hK hP b44 d_Model_checkKind_187 ?_
        replace hR := gd_e hR
        obtain ⟨b45, hR⟩ := hR
        refine laM_36 hx hb hK hP b45 d_Model_checkKind_188 ?_
        replace hR := bi_e hR
        obtain ⟨r46, l46, T46, hc46, hR⟩ := hR
        refine gcV_v (rest := []) ⟨hx, hb, hml, hown, hT⟩ (h_Model_fail _ _ _ _ _ _ hc46) (cwV 2 hT (gV ml_Model_381 im_Model_fail se_Model_fail ini_Model co_Model_fail) rfl rfl rfl pd_Model_fail ⟨rm_hi, rm_lo (Nat.le_of_ble_eq_true rfl)⟩) hK hP hD hS hA hnw henv (Nat.le_of_ble_eq_true rfl) rfl rfl hl.1 rfl (Nat.le_of_ble_eq_true rfl) d_Model_checkKind_189 ⟨Nat.le_refl _, Nat.le_refl _⟩ (fun H locs hP hD hS => ?_)
        clear hc46
        have g := lb_192 T46 r39 hR
        rw [hG] at g
        exact g _ _ hP hD hS _ (lv_sub hl [1, 0] rfl)
  replace hR := if_n c37 hR
  by_cases c47 : T0.1 50 p1.toNatClampNeg = (12 : Int32)
  · replace hR := if_p c47 hR
    refine lv_tableIn (off := 249) (tgt := 255) hx hb d_Model_checkKind_6 (by rw [c47]; decide) (by rw [c47]; decide) (by rw [c47]; decide) (by decide) ?_
    refine lv_aload_n hx hb d_Model_checkKind_255 rfl (lv_at hl 0 rfl) ?_
    refine lv_aload_n hx hb d_Model_checkKind_256 rfl (lv_at hl 0 rfl) ?_
    refine rd_Model_126 hx hb hT hown hK hP d_Model_checkKind_257 ?_
    refine lv_iload_n hx hb d_Model_checkKind_260 rfl (lv_at hl 1 rfl) ?_
    replace hR := gd_e hR
    obtain ⟨b48, hR⟩ := hR
    refine laM_37 hx hb hK hP b48 d_Model_checkKind_261 ?_
    replace hR := bi_e hR
    obtain ⟨r49, l49, T49, hc49, hR⟩ := hR
    refine gcV_i (rest := []) ⟨hx, hb, hml, hown, hT⟩ (h_Model_check _ _ _ _ _ hc49) (cwV 1 hT (gV ml_Model_652 im_Model_check se_Model_check ini_Model co_Model_check) rfl rfl rfl pd_Model_check ⟨rm_hi, rm_lo (Nat.le_of_ble_eq_true rfl)⟩) hK hP hD hS hA hnw henv (Nat.le_of_ble_eq_true rfl) rfl rfl hl.1 rfl (Nat.le_of_ble_eq_true rfl) d_Model_checkKind_262 ⟨Nat.le_refl _, Nat.le_refl _⟩ (fun H locs hP hD hS => ?_)
    clear hc49
    refine lv_istore_n (lv' := [(2, .int r49), (0, .ref (ad 0)), (1, .int p1)]) hx hb d_Model_checkKind_265 rfl hl (by decide) rfl (fun ls hl => ?_)
    refine lv_aload_n hx hb d_Model_checkKind_266 rfl (lv_at hl 1 rfl) ?_
    replace hR := bi_e hR
    obtain ⟨r50, l50, T50, hc50, hR⟩ := hR
    refine gcV_i (rest := []) ⟨hx, hb, hml, hown, hT⟩ (h_Model_bad _ _ _ _ hc50) (cwV 0 hT (gV ml_Model_385 im_Model_bad se_Model_bad ini_Model co_Model_bad) rfl rfl rfl pd_Model_bad ⟨rm_hi, rm_lo (Nat.le_of_ble_eq_true rfl)⟩) hK hP hD hS hA hnw henv (Nat.le_of_ble_eq_true rfl) rfl rfl hl.1 rfl (Nat.le_of_ble_eq_true rfl) d_Model_checkKind_267 ⟨Nat.le_refl _, Nat.le_refl _⟩ (fun H locs hP hD hS => ?_)
    clear hc50
    refine lv_if_ne (tgt := 297) hx hb d_Model_checkKind_270 (by decide) (fun c51 => ?_) (fun c51 => ?_)
    · replace hR := if_n c51 hR
      refine lv_iconst (v := 0) hx hb d_Model_checkKind_297 (by decide) ?_
      obtain ⟨e1, -, e3⟩ := re_e hR
      subst e1; subst e3
      exact W.iret (v := (0 : Int32)) hx hb hr (fun t ht hW => ⟨⟨(0 : Int32), (), rfl, rfl, by rw [ht]; exact hP, va_K.moved hW.alike hK, hD⟩, hS.F ht⟩) hS.2.2 d_Model_checkKind_298
    · replace hR := if_p c51 hR
      refine lv_aload_n hx hb d_Model_checkKind_273 rfl (lv_at hl 1 rfl) ?_
      refine lv_iload_n hx hb d_Model_checkKind_274 rfl (lv_at hl 0 rfl) ?_
      replace hR := bi_e hR
      obtain ⟨r53, l53, T53, hc53, hR⟩ := hR
      refine gcV_i (rest := []) ⟨hx, hb, hml, hown, hT⟩ (h_Model_isRow _ _ _ _ _ hc53) (cwV 1 hT (gV ml_Model_744 im_Model_isRow se_Model_isRow ini_Model co_Model_isRow) rfl rfl rfl pd_Model_isRow ⟨rm_hi, rm_lo (Nat.le_of_ble_eq_true rfl)⟩) hK hP hD hS hA hnw henv (Nat.le_of_ble_eq_true rfl) rfl rfl hl.1 rfl (Nat.le_of_ble_eq_true rfl) d_Model_checkKind_275 ⟨Nat.le_refl _, Nat.le_refl _⟩ (fun H locs hP hD hS => ?_)
      clear hc53
      refine lv_if_ne (tgt := 297) hx hb d_Model_checkKind_278 (by decide) (fun c54 => ?_) (fun c54 => ?_)
      · replace hR := if_n c54 hR
        refine lv_iconst (v := 0) hx hb d_Model_checkKind_297 (by decide) ?_
        obtain ⟨e1, -, e3⟩ := re_e hR
        subst e1; subst e3
        exact W.iret (v := (0 : Int32)) hx hb hr (fun t ht hW => ⟨⟨(0 : Int32), (), rfl, rfl, by rw [ht]; exact hP, va_K.moved hW.alike hK, hD⟩, hS.F ht⟩) hS.2.2 d_Model_checkKind_298
      · replace hR := if_p c54 hR
        refine lv_aload_n hx hb d_Model_checkKind_281 rfl (lv_at hl 1 rfl) ?_
        refine lv_iconst (v := 4) hx hb d_Model_checkKind_282 (by decide) ?_
        refine lv_aload_n hx hb d_Model_checkKind_283 rfl (lv_at hl 1 rfl) ?_
        refine rd_Model_123 hx hb hT hown hK hP d_Model_checkKind_284 ?_
        refine lv_aload_n hx hb d_Model_checkKind_287 rfl (lv_at hl 1 rfl) ?_
        refine rd_Model_126 hx hb hT hown hK hP d_Model_checkKind_288 ?_
        refine lv_iload_n hx hb d_Model_checkKind_291 rfl (lv_at hl 2 rfl) ?_
        replace hR := gd_e hR
        obtain ⟨b56, hR⟩ := hR
        refine laM_37 hx hb hK hP b56 d_Model_checkKind_292 ?_
        replace hR := gd_e hR
        obtain ⟨b57, hR⟩ := hR
        refine laM_36 hx hb hK hP b57 d_Model_checkKind_293 ?_
        replace hR := bi_e hR
        obtain ⟨r58, l58, T58, hc58, hR⟩ := hR
        refine gcV_v (rest := []) ⟨hx, hb, hml, hown, hT⟩ (h_Model_fail _ _ _ _ _ _ hc58) (cwV 2 hT (gV ml_Model_381 im_Model_fail se_Model_fail ini_Model co_Model_fail) rfl rfl rfl pd_Model_fail ⟨rm_hi, rm_lo (Nat.le_of_ble_eq_true rfl)⟩) hK hP hD hS hA hnw henv (Nat.le_of_ble_eq_true rfl) rfl rfl hl.1 rfl (Nat.le_of_ble_eq_true rfl) d_Model_checkKind_294 ⟨Nat.le_refl _, Nat.le_refl _⟩ (fun H locs hP hD hS => ?_)
        clear hc58
        refine lv_iconst (v := 0) hx hb d_Model_checkKind_297 (by decide) ?_
        obtain ⟨e1, -, e3⟩ := re_e hR
        subst e1; subst e3
        exact W.iret (v := (0 : Int32)) hx hb hr (fun t ht hW => ⟨⟨(0 : Int32), (), rfl, rfl, by rw [ht]; exact hP, va_K.moved hW.alike hK, hD⟩, hS.F ht⟩) hS.2.2 d_Model_checkKind_298
  replace hR := if_n c47 hR
  by_cases c60 : T0.1 50 p1.toNatClampNeg = (13 : Int32)
  · replace hR := if_p c60 hR
    refine lv_tableIn (off := 293) (tgt := 299) hx hb d_Model_checkKind_6 (by rw [c60]; decide) (by rw [c60]; decide) (by rw [c60]; decide) (by decide) ?_
    refine lv_aload_n hx hb d_Model_checkKind_299 rfl (lv_at hl 0 rfl) ?_
    refine lv_iload_n hx hb d_Model_checkKind_300 rfl (lv_at hl 1 rfl) ?_
    replace hR := bi_e hR
    obtain ⟨r61, l61, T61, hc61, hR⟩ := hR
    refine gcV_i (rest := []) ⟨hx, hb, hml, hown, hT⟩ (h_Model_checkOperator _ _ _ _ _ hc61) (cwV 1 hT (gV ml_Model_747 im_Model_checkOperator se_Model_checkOperator ini_Model co_Model_checkOperator) rfl rfl rfl pd_Model_checkOperator ⟨rm_hi, rm_lo (Nat.le_of_ble_eq_true rfl)⟩) hK hP hD hS hA hnw henv (Nat.le_of_ble_eq_true rfl) rfl rfl hl.1 rfl (Nat.le_of_ble_eq_true rfl) d_Model_checkKind_301 ⟨Nat.le_refl _, Nat.le_refl _⟩ (fun H locs hP hD hS => ?_)
    clear hc61
    obtain ⟨e1, -, e3⟩ := re_e hR
    subst e1; subst e3
    exact W.iret (v := r61) hx hb hr (fun t ht hW => ⟨⟨r61, (), rfl, rfl, by rw [ht]; exact hP, va_K.moved hW.alike hK, hD⟩, hS.F ht⟩) hS.2.2 d_Model_checkKind_304
  replace hR := if_n c60 hR
  by_cases c63 : T0.1 50 p1.toNatClampNeg = (14 : Int32)
  · replace hR := if_p c63 hR
    refine lv_tableIn (off := 305) (tgt := 311) hx hb d_Model_checkKind_6 (by rw [c63]; decide) (by rw [c63]; decide) (by rw [c63]; decide) (by decide) ?_
    refine lv_aload_n hx hb d_Model_checkKind_311 rfl (lv_at hl 0 rfl) ?_
    refine lv_iload_n hx hb d_Model_checkKind_312 rfl (lv_at hl 1 rfl) ?_
    replace hR := bi_e hR
    obtain ⟨r64, l64, T64, hc64, hR⟩ := hR
    refine gcV_i (rest := []) ⟨hx, hb, hml, hown, hT⟩ (h_Model_checkThrough _ _ _ _ _ hc64) (cwV 1 hT (gV ml_Model_753 im_Model_checkThrough se_Model_checkThrough ini_Model co_Model_checkThrough) rfl rfl rfl pd_Model_checkThrough ⟨rm_hi, rm_lo (Nat.le_of_ble_eq_true rfl)⟩) hK hP hD hS hA hnw henv (Nat.le_of_ble_eq_true rfl) rfl rfl hl.1 rfl (Nat.le_of_ble_eq_true rfl) d_Model_checkKind_313 ⟨Nat.le_refl _, Nat.le_refl _⟩ (fun H locs hP hD hS => ?_)
    clear hc64
    obtain ⟨e1, -, e3⟩ := re_e hR
    subst e1; subst e3
    exact W.iret (v := r64) hx hb hr (fun t ht hW => ⟨⟨r64, (), rfl, rfl, by rw [ht]; exact hP, va_K.moved hW.alike hK, hD⟩, hS.F ht⟩) hS.2.2 d_Model_checkKind_316
  replace hR := if_n c63 hR
  by_cases c66 : T0.1 50 p1.toNatClampNeg = (15 : Int32)
  · replace hR := if_p c66 hR
    refine lv_tableIn (off := 299) (tgt := 305) hx hb d_Model_checkKind_6 (by rw [c66]; decide) (by rw [c66]; decide) (by rw [c66]; decide) (by decide) ?_
    refine lv_aload_n hx hb d_Model_checkKind_305 rfl (lv_at hl 0 rfl) ?_
    refine lv_iload_n hx hb d_Model_checkKind_306 rfl (lv_at hl 1 rfl) ?_
    replace hR := bi_e hR
    obtain ⟨r67, l67, T67, hc67, hR⟩ := hR
    refine gcV_i (rest := []) ⟨hx, hb, hml, hown, hT⟩ (h_Model_checkIndex _ _ _ _ _ hc67) (cwV 1 hT (gV ml_Model_750 im_Model_checkIndex se_Model_checkIndex ini_Model co_Model_checkIndex) rfl rfl rfl pd_Model_checkIndex ⟨rm_hi, rm_lo (Nat.le_of_ble_eq_true rfl)⟩) hK hP hD hS hA hnw henv (Nat.le_of_ble_eq_true rfl) rfl rfl hl.1 rfl (Nat.le_of_ble_eq_true rfl) d_Model_checkKind_307 ⟨Nat.le_refl _, Nat.le_refl _⟩ (fun H locs hP hD hS => ?_)
    clear hc67
    obtain ⟨e1, -, e3⟩ := re_e hR
    subst e1; subst e3
    exact W.iret (v := r67) hx hb hr (fun t ht hW => ⟨⟨r67, (), rfl, rfl, by rw [ht]; exact hP, va_K.moved hW.alike hK, hD⟩, hS.F ht⟩) hS.2.2 d_Model_checkKind_310
  replace hR := if_n c66 hR
  have h369 : (T0.1 50 p1.toNatClampNeg : Int32).toInt < 0 ∨ 15 < (T0.1 50 p1.toNatClampNeg : Int32).toInt := by
    simp only [i_eq, Int32.reduceToInt] at c2 c4 c6 c8 c16 c19 c22 c25 c28 c31 c34 c37 c47 c60 c63 c66; omega
  refine lv_tableOut (tgt := 311) hx hb d_Model_checkKind_6 h369 (by decide) ?_
  refine lv_aload_n hx hb d_Model_checkKind_311 rfl (lv_at hl 0 rfl) ?_
  refine lv_iload_n hx hb d_Model_checkKind_312 rfl (lv_at hl 1 rfl) ?_
  replace hR := bi_e hR
  obtain ⟨r70, l70, T70, hc70, hR⟩ := hR
  refine gcV_i (rest := []) ⟨hx, hb, hml, hown, hT⟩ (h_Model_checkThrough _ _ _ _ _ hc70) (cwV 1 hT (gV ml_Model_753 im_Model_checkThrough se_Model_checkThrough ini_Model co_Model_checkThrough) rfl rfl rfl pd_Model_checkThrough ⟨rm_hi, rm_lo (Nat.le_of_ble_eq_true rfl)⟩) hK hP hD hS hA hnw henv (Nat.le_of_ble_eq_true rfl) rfl rfl hl.1 rfl (Nat.le_of_ble_eq_true rfl) d_Model_checkKind_313 ⟨Nat.le_refl _, Nat.le_refl _⟩ (fun H locs hP hD hS => ?_)
  clear hc70
  obtain ⟨e1, -, e3⟩ := re_e hR
  subst e1; subst e3
  exact W.iret (v := r70) hx hb hr (fun t ht hW => ⟨⟨r70, (), rfl, rfl, by rw [ht]; exact hP, va_K.moved hW.alike hK, hD⟩, hS.F ht⟩) hS.2.2 d_Model_checkKind_316
set_option maxHeartbeats 4000000 in
set_option maxRecDepth 100000 in
theorem sp_Model_checkName (l : Launch) (dC : Nat → ClassId) (dI : Nat → Nat → Nat) (ea ev ad : Nat → Nat) (km : Nat → ClassId) (F : gF) (nf d : Nat) (h_Model_findVar : mt_Model_findVar l dC dI ea ev ad km F d) (h_Model_fail : mt_Model_fail l dC dI ea ev ad km F d) (h_Model_bad : mt_Model_bad l dC dI ea ev ad km F d) (h_Model_known : mt_Model_known l dC dI ea ev ad km F d) (T0 : gSt) (p1 : Int32) (r0 : Int32) (rl0 : Int64) (T9 : gSt) (hR : rb_Model_checkName F nf T0 p1 = some (r0, rl0, T9)) : GMi l dC dI LM ad km ea ev y_Model_checkName w_Model_checkName (rmD (d + 1)) [.ref (ad 0), .int p1] T0 r0 T9 := by
  intro sz
  refine Met.ofW (cc := b_Model_checkName) (maxL := 5) (ret := (some .int)) (by decide) rfl ?_
  intro p e s m args below meth c s₁ B hml hv
  obtain ⟨rfl, hsz, hP, hK, hD0, hnw, henv⟩ := hv
  have hx := B.exec
  have hb := B.bytes
  have hr := B.returns
  have hT : ∀ w ∈ lw_good, w.before _ s = true := fun w h => atoms_spec (ws := w_Model_checkName) B.pre w (List.mem_cons_of_mem _ h)
  have hown : s.vm.findClass R_Model = some m.cls := findClass_of_methodNamed B.named
  subst hsz
  have hD := hD0.self (sz := s.heap.size)
  clear hD0
  generalize hAe : va_A (gW LM ad km T0) s.heap.size = A at hD henv ⊢
  have hA : ∀ q : Nat, s.heap.size ≤ q → A q := fun q h => by rw [← hAe]; exact Or.inr h
  have hS : va_S A s.heap s.heap [] := va_S.rf
  have hl := lv_entry ([.ref (ad 0), .int p1]) (n := 5) (Nat.le_of_ble_eq_true rfl)
  rw [lg_entry_eq]
  generalize (lg_sl ([.ref (ad 0), .int p1]) ++ List.replicate (5 - (lg_sl ([.ref (ad 0), .int p1])).length) Slot.unset).toArray = ls at hl ⊢
  have hl : lv_has ls 5 [(0, .ref (ad 0)), (1, .int p1)] := hl
  obtain ⟨G, hG⟩ : ∃ G : Nat → List (Nat × Value) → List Value → gSt → Prop, G = (fun pc lv stk T => ∀ (H : Heap) (locs : List Loc), va_P (dC, dI) cls_all (gW LM ad km T) H → va_D A (gW LM ad km T) → va_S A s.heap H locs → ∀ (ls : Array Slot), lv_has ls 5 lv → W p l e (headSpec w_Model_checkName (rmD (d + 1))).room s m ([.ref (ad 0), .int p1] : List Value).toArray below meth c H locs 0 0 (MQ below (va_Qi (fun (z : Int32) (_ : Unit) => z = r0) (fun _ t => gPost dC dI LM ad km T9 A t) A) ([.ref (ad 0), .int p1] : List Value).toArray s 0 0 A) (F0 m pc ls stk)) := ⟨_, rfl⟩
  have lb_121 : ∀ (T : gSt) (x3 : Int32) (y0 : Int32), rj_Model_checkName_121 F nf T x3 y0 = some (r0, rl0, T9) → G 121 [(0, .ref (ad 0)), (3, .int x3)] [.int y0] T := by
    intro T x3 y0 hR; unfold rj_Model_checkName_121 at hR; rw [hG]; intro H locs hP hD hS ls hl
    refine lv_istore (lv' := [(4, .int y0), (0, .ref (ad 0)), (3, .int x3)]) hx hb d_Model_checkName_121 hl (by decide) rfl (fun ls hl => ?_)
    refine lv_iload hx hb d_Model_checkName_123 (lv_at hl 0 rfl) ?_
    refine lv_if_eq (tgt := 160) hx hb d_Model_checkName_125 (by decide) (fun c22 => ?_) (fun c22 => ?_)
    · replace hR := if_p c22 hR
      refine lv_iload_n hx hb d_Model_checkName_160 rfl (lv_at hl 2 rfl) ?_
      obtain ⟨e1, -, e3⟩ := re_e hR
      subst e1; subst e3
      exact W.iret (v := x3) hx hb hr (fun t ht hW => ⟨⟨x3, (), rfl, rfl, by rw [ht]; exact hP, va_K.moved hW.alike hK, hD⟩, hS.F ht⟩) hS.2.2 d_Model_checkName_161
    · replace hR := if_n c22 hR
      refine lv_aload_n hx hb d_Model_checkName_128 rfl (lv_at hl 1 rfl) ?_
      refine lv_iconst (v := 1) hx hb d_Model_checkName_129 (by decide) ?_
      refine lv_aload_n hx hb d_Model_checkName_130 rfl (lv_at hl 1 rfl) ?_
      refine rd_Model_159 hx hb hT hown hK hP d_Model_checkName_131 ?_
      refine lv_iload_n hx hb d_Model_checkName_134 rfl (lv_at hl 2 rfl) ?_
      replace hR := gd_e hR
      obtain ⟨b24, hR⟩ := hR
      refine laM_48 hx hb hK hP b24 d_Model_checkName_135 ?_
      refine lv_aload_n hx hb d_Model_checkName_136 rfl (lv_at hl 1 rfl) ?_
      refine rd_Model_162 hx hb hT hown hK hP d_Model_checkName_137 ?_
      refine lv_iload_n hx hb d_Model_checkName_140 rfl (lv_at hl 2 rfl) ?_
      replace hR := gd_e hR
      obtain ⟨b25, hR⟩ := hR
      refine laM_49 hx hb hK hP b25 d_Model_checkName_141 ?_
      refine lv_aload_n hx hb d_Model_checkName_142 rfl (lv_at hl 1 rfl) ?_
      refine rd_Model_165 hx hb hT hown hK hP d_Model_checkName_143 ?_
      refine lv_iload_n hx hb d_Model_checkName_146 rfl (lv_at hl 2 rfl) ?_
      replace hR := gd_e hR
      obtain ⟨b26, hR⟩ := hR
      refine laM_50 hx hb hK hP b26 d_Model_checkName_147 ?_
      refine lv_aload_n hx hb d_Model_checkName_148 rfl (lv_at hl 1 rfl) ?_
      refine rd_Model_168 hx hb hT hown hK hP d_Model_checkName_149 ?_
      refine lv_iload_n hx hb d_Model_checkName_152 rfl (lv_at hl 2 rfl) ?_
      replace hR := gd_e hR
      obtain ⟨b27, hR⟩ := hR
      refine laM_51 hx hb hK hP b27 d_Model_checkName_153 ?_
      replace hR := bi_e hR
      obtain ⟨r28, l28, T28, hc28, hR⟩ := hR
      refine gcV_i (rest := []) ⟨hx, hb, hml, hown, hT⟩ (h_Model_known _ _ _ _ _ _ _ _ _ hc28) (cwV 5 hT (gV ml_Model_556 im_Model_known se_Model_known ini_Model co_Model_known) rfl rfl rfl pd_Model_known ⟨rm_hi, rm_lo (Nat.le_of_ble_eq_true rfl)⟩) hK hP hD hS hA hnw henv (Nat.le_of_ble_eq_true rfl) rfl rfl hl.1 rfl (Nat.le_of_ble_eq_true rfl) d_Model_checkName_154 ⟨Nat.le_refl _, Nat.le_refl _⟩ (fun H locs hP hD hS => ?_)
      clear hc28
      refine lv_goto (tgt := 161) hx hb d_Model_checkName_157 (by decide) ?_
      obtain ⟨e1, -, e3⟩ := re_e hR
      subst e1; subst e3
      exact W.iret (v := r28) hx hb hr (fun t ht hW => ⟨⟨r28, (), rfl, rfl, by rw [ht]; exact hP, va_K.moved hW.alike hK, hD⟩, hS.F ht⟩) hS.2.2 d_Model_checkName_161
  have lb_57 : ∀ (T : gSt) (x1 : Int32) (x2 : Int32), rj_Model_checkName_57 F nf T x1 x2 = some (r0, rl0, T9) → G 57 [(0, .ref (ad 0)), (1, .int x1), (2, .int x2)] [] T := by
    intro T x1 x2 hR; unfold rj_Model_checkName_57 at hR; rw [hG]; intro H locs hP hD hS ls hl
    refine lv_aload_n hx hb d_Model_checkName_57 rfl (lv_at hl 0 rfl) ?_
    replace hR := bi_e hR
    obtain ⟨r10, l10, T10, hc10, hR⟩ := hR
    refine gcV_i (rest := []) ⟨hx, hb, hml, hown, hT⟩ (h_Model_bad _ _ _ _ hc10) (cwV 0 hT (gV ml_Model_385 im_Model_bad se_Model_bad ini_Model co_Model_bad) rfl rfl rfl pd_Model_bad ⟨rm_hi, rm_lo (Nat.le_of_ble_eq_true rfl)⟩) hK hP hD hS hA hnw henv (Nat.le_of_ble_eq_true rfl) rfl rfl hl.1 rfl (Nat.le_of_ble_eq_true rfl) d_Model_checkName_58 ⟨Nat.le_refl _, Nat.le_refl _⟩ (fun H locs hP hD hS => ?_)
    clear hc10
    refine lv_if_eq (tgt := 66) hx hb d_Model_checkName_61 (by decide) (fun c11 => ?_) (fun c11 => ?_)
    · replace hR := if_p c11 hR
      refine lv_aload_n hx hb d_Model_checkName_66 rfl (lv_at hl 0 rfl) ?_
      refine rd_Model_186 hx hb hT hown hK hP d_Model_checkName_67 ?_
      refine lv_iload_n hx hb d_Model_checkName_70 rfl (lv_at hl 2 rfl) ?_
      replace hR := gd_e hR
      obtain ⟨b12, hR⟩ := hR
      refine laM_57 hx hb hK hP b12 d_Model_checkName_71 ?_
      refine lv_topi (fun z13 e13 => ?_)
      replace hR := vK_e e13 hR
      refine lv_istore_n (lv' := [(3, .int z13), (0, .ref (ad 0)), (1, .int x1), (2, .int x2)]) hx hb d_Model_checkName_72 rfl hl (by decide) rfl (fun ls hl => ?_)
      refine lv_aload_n hx hb d_Model_checkName_73 rfl (lv_at hl 1 rfl) ?_
      refine rd_Model_153 hx hb hT hown hK hP d_Model_checkName_74 ?_
      refine lv_iload_n hx hb d_Model_checkName_77 rfl (lv_at hl 2 rfl) ?_
      refine lv_aload_n hx hb d_Model_checkName_78 rfl (lv_at hl 1 rfl) ?_
      refine rd_Model_183 hx hb hT hown hK hP d_Model_checkName_79 ?_
      refine lv_iload_n hx hb d_Model_checkName_82 rfl (lv_at hl 3 rfl) ?_
      replace hR := gd_e hR
      obtain ⟨b14, hR⟩ := hR
      refine laM_56 hx hb hK hP b14 d_Model_checkName_83 ?_
      replace hR := gd_e hR
      obtain ⟨b15, hR⟩ := hR
      refine saM_46 hx hb hK hP hD hS b15 d_Model_checkName_84 (fun T15 eT H locs hP hD hS => ?_)
      replace hR := stK_e eT hR
      clear eT
      refine lv_iload_n hx hb d_Model_checkName_85 rfl (lv_at hl 0 rfl) ?_
      refine lv_if_le (tgt := 120) hx hb d_Model_checkName_86 (by decide) (fun c16 => ?_) (fun c16 => ?_)
      · replace hR := if_p c16 hR
        refine lv_iconst (v := 0) hx hb d_Model_checkName_120 (by decide) ?_
        have g := lb_121 T15 z13 (0 : Int32) hR
        rw [hG] at g
        exact g _ _ hP hD hS _ (lv_sub hl [1, 0] rfl)
      · replace hR := if_n c16 hR
        refine lv_aload_n hx hb d_Model_checkName_89 rfl (lv_at hl 1 rfl) ?_
        refine rd_Model_156 hx hb hT hown hK hP d_Model_checkName_90 ?_
        refine lv_iload_n hx hb d_Model_checkName_93 rfl (lv_at hl 0 rfl) ?_
        replace hR := gd_e hR
        obtain ⟨b17, hR⟩ := hR
        refine laM_47 hx hb hK hP b17 d_Model_checkName_94 ?_
        refine lv_iconst (v := 2) hx hb d_Model_checkName_95 (by decide) ?_
        refine lv_icmp_ne (tgt := 120) hx hb d_Model_checkName_96 (by decide) (fun c18 => ?_) (fun c18 => ?_)
        · replace hR := if_n c18 hR
          refine lv_iconst (v := 0) hx hb d_Model_checkName_120 (by decide) ?_
          have g := lb_121 T15 z13 (0 : Int32) hR
          rw [hG] at g
          exact g _ _ hP hD hS _ (lv_sub hl [1, 0] rfl)
        · replace hR := if_p c18 hR
          refine lv_aload_n hx hb d_Model_checkName_99 rfl (lv_at hl 1 rfl) ?_
          refine rd_Model_627 hx hb hT hown hK hP d_Model_checkName_100 ?_
          refine lv_aload_n hx hb d_Model_checkName_103 rfl (lv_at hl 1 rfl) ?_
          refine rd_Model_183 hx hb hT hown hK hP d_Model_checkName_104 ?_
          refine lv_iload_n hx hb d_Model_checkName_107 rfl (lv_at hl 3 rfl) ?_
          replace hR := gd_e hR
          obtain ⟨b19, hR⟩ := hR
          refine laM_56 hx hb hK hP b19 d_Model_checkName_108 ?_
          refine lv_ishr hx hb d_Model_checkName_109 ?_
          refine lv_iconst (v := 1) hx hb d_Model_checkName_110 (by decide) ?_
          refine lv_iand hx hb d_Model_checkName_111 ?_
          refine lv_iconst (v := 1) hx hb d_Model_checkName_112 (by decide) ?_
          refine lv_icmp_ne (tgt := 120) hx hb d_Model_checkName_113 (by decide) (fun c20 => ?_) (fun c20 => ?_)
          · replace hR := if_n c20 hR
            refine lv_iconst (v := 0) hx hb d_Model_checkName_120 (by decide) ?_
            have g := lb_121 T15 z13 (0 : Int32) hR
            rw [hG] at g
            exact g _ _ hP hD hS _ (lv_sub hl [1, 0] rfl)
          · replace hR := if_p c20 hR
            refine lv_iconst (v := 1) hx hb d_Model_checkName_116 (by decide) ?_
            refine lv_goto (tgt := 121) hx hb d_Model_checkName_117 (by decide) ?_
            have g := lb_121 T15 z13 (1 : Int32) hR
            rw [hG] at g
            exact g _ _ hP hD hS _ (lv_sub hl [1, 0] rfl)
    · replace hR := if_n c11 hR
      refine lv_iconst (v := 0) hx hb d_Model_checkName_64 (by decide) ?_
      obtain ⟨e1, -, e3⟩ := re_e hR
      subst e1; subst e3
      exact W.iret (v := (0 : Int32)) hx hb hr (fun t ht hW => ⟨⟨(0 : Int32), (), rfl, rfl, by rw [ht]; exact hP, va_K.moved hW.alike hK, hD⟩, hS.F ht⟩) hS.2.2 d_Model_checkName_65
  unfold rb_Model_checkName at hR
  refine lv_aload_n hx hb d_Model_checkName_0 rfl (lv_at hl 0 rfl) ?_
  refine lv_aload_n hx hb d_Model_checkName_1 rfl (lv_at hl 0 rfl) ?_
  refine rd_Model_138 hx hb hT hown hK hP d_Model_checkName_2 ?_
  refine lv_iload_n hx hb d_Model_checkName_5 rfl (lv_at hl 1 rfl) ?_
  replace hR := gd_e hR
  obtain ⟨b1, hR⟩ := hR
  refine laM_41 hx hb hK hP b1 d_Model_checkName_6 ?_
  replace hR := bi_e hR
  obtain ⟨r2, l2, T2, hc2, hR⟩ := hR
  refine gcV_i (rest := []) ⟨hx, hb, hml, hown, hT⟩ (h_Model_findVar _ _ _ _ _ hc2) (cwV 1 hT (gV ml_Model_691 im_Model_findVar se_Model_findVar ini_Model co_Model_findVar) rfl rfl rfl pd_Model_findVar ⟨rm_hi, rm_lo (Nat.le_of_ble_eq_true rfl)⟩) hK hP hD hS hA hnw henv (Nat.le_of_ble_eq_true rfl) rfl rfl hl.1 rfl (Nat.le_of_ble_eq_true rfl) d_Model_checkName_7 ⟨Nat.le_refl _, Nat.le_refl _⟩ (fun H locs hP hD hS => ?_)
  clear hc2
  refine lv_istore_n (lv' := [(2, .int r2), (0, .ref (ad 0)), (1, .int p1)]) hx hb d_Model_checkName_10 rfl hl (by decide) rfl (fun ls hl => ?_)
  refine lv_iload_n hx hb d_Model_checkName_11 rfl (lv_at hl 0 rfl) ?_
  refine lv_if_ge (tgt := 29) hx hb d_Model_checkName_12 (by decide) (fun c3 => ?_) (fun c3 => ?_)
  · replace hR := if_p c3 hR
    refine lv_aload_n hx hb d_Model_checkName_29 rfl (lv_at hl 1 rfl) ?_
    refine rd_Model_624 hx hb hT hown hK hP d_Model_checkName_30 ?_
    refine lv_aload_n hx hb d_Model_checkName_33 rfl (lv_at hl 1 rfl) ?_
    refine rd_Model_183 hx hb hT hown hK hP d_Model_checkName_34 ?_
    refine lv_iload_n hx hb d_Model_checkName_37 rfl (lv_at hl 0 rfl) ?_
    replace hR := gd_e hR
    obtain ⟨b4, hR⟩ := hR
    refine laM_56 hx hb hK hP b4 d_Model_checkName_38 ?_
    refine lv_ishr hx hb d_Model_checkName_39 ?_
    refine lv_iconst (v := 1) hx hb d_Model_checkName_40 (by decide) ?_
    refine lv_iand hx hb d_Model_checkName_41 ?_
    refine lv_if_ne (tgt := 57) hx hb d_Model_checkName_42 (by decide) (fun c5 => ?_) (fun c5 => ?_)
    · replace hR := if_n c5 hR
      have g := lb_57 T2 p1 r2 hR
      rw [hG] at g
      exact g _ _ hP hD hS _ (lv_sub hl [1, 2, 0] rfl)
    · replace hR := if_p c5 hR
      refine lv_aload_n hx hb d_Model_checkName_45 rfl (lv_at hl 1 rfl) ?_
      refine lv_bipush (v := 6) hx hb d_Model_checkName_46 (by decide) ?_
      refine lv_aload_n hx hb d_Model_checkName_48 rfl (lv_at hl 1 rfl) ?_
      refine rd_Model_123 hx hb hT hown hK hP d_Model_checkName_49 ?_
      refine lv_iload_n hx hb d_Model_checkName_52 rfl (lv_at hl 2 rfl) ?_
      replace hR := gd_e hR
      obtain ⟨b6, hR⟩ := hR
      refine laM_36 hx hb hK hP b6 d_Model_checkName_53 ?_
      replace hR := bi_e hR
      obtain ⟨r7, l7, T7, hc7, hR⟩ := hR
      refine gcV_v (rest := []) ⟨hx, hb, hml, hown, hT⟩ (h_Model_fail _ _ _ _ _ _ hc7) (cwV 2 hT (gV ml_Model_381 im_Model_fail se_Model_fail ini_Model co_Model_fail) rfl rfl rfl pd_Model_fail ⟨rm_hi, rm_lo (Nat.le_of_ble_eq_true rfl)⟩) hK hP hD hS hA hnw henv (Nat.le_of_ble_eq_true rfl) rfl rfl hl.1 rfl (Nat.le_of_ble_eq_true rfl) d_Model_checkName_54 ⟨Nat.le_refl _, Nat.le_refl _⟩ (fun H locs hP hD hS => ?_)
      clear hc7
      have g := lb_57 T7 p1 r2 hR
      rw [hG] at g
      exact g _ _ hP hD hS _ (lv_sub hl [1, 2, 0] rfl)
  · replace hR := if_n c3 hR
    refine lv_aload_n hx hb d_Model_checkName_15 rfl (lv_at hl 1 rfl) ?_
    refine lv_iconst (v := 3) hx hb d_Model_checkName_16 (by decide) ?_
    refine lv_aload_n hx hb d_Model_checkName_17 rfl (lv_at hl 1 rfl) ?_
    refine rd_Model_123 hx hb hT hown hK hP d_Model_checkName_18 ?_
    refine lv_iload_n hx hb d_Model_checkName_21 rfl (lv_at hl 2 rfl) ?_
    replace hR := gd_e hR
    obtain ⟨b8, hR⟩ := hR
    refine laM_36 hx hb hK hP b8 d_Model_checkName_22 ?_
    replace hR := bi_e hR
    obtain ⟨r9, l9, T9, hc9, hR⟩ := hR
    refine gcV_v (rest := []) ⟨hx, hb, hml, hown, hT⟩ (h_Model_fail _ _ _ _ _ _ hc9) (cwV 2 hT (gV ml_Model_381 im_Model_fail se_Model_fail ini_Model co_Model_fail) rfl rfl rfl pd_Model_fail ⟨rm_hi, rm_lo (Nat.le_of_ble_eq_true rfl)⟩) hK hP hD hS hA hnw henv (Nat.le_of_ble_eq_true rfl) rfl rfl hl.1 rfl (Nat.le_of_ble_eq_true rfl) d_Model_checkName_23 ⟨Nat.le_refl _, Nat.le_refl _⟩ (fun H locs hP hD hS => ?_)
    clear hc9
    refine lv_goto (tgt := 57) hx hb d_Model_checkName_26 (by decide) ?_
    have g := lb_57 T9 p1 r2 hR
    rw [hG] at g
    exact g _ _ hP hD hS _ (lv_sub hl [1, 2, 0] rfl)
set_option maxHeartbeats 4000000 in
set_option maxRecDepth 100000 in
theorem sp_Model_checkThrough (l : Launch) (dC : Nat → ClassId) (dI : Nat → Nat → Nat) (ea ev ad : Nat → Nat) (km : Nat → ClassId) (F : gF) (nf d : Nat) (h_Model_isPointer : mt_Model_isPointer l dC dI ea ev ad km F d) (h_Model_isTitled : mt_Model_isTitled l dC dI ea ev ad km F d) (h_Model_isLive : mt_Model_isLive l dC dI ea ev ad km F d) (h_Model_fail : mt_Model_fail l dC dI ea ev ad km F d) (h_Model_bad : mt_Model_bad l dC dI ea ev ad km F d) (h_Model_findField : mt_Model_findField l dC dI ea ev ad km F d) (h_Model_changed : mt_Model_changed l dC dI ea ev ad km F d) (T0 : gSt) (p1 : Int32) (r0 : Int32) (rl0 : Int64) (T9 : gSt) (hR : rb_Model_checkThrough F nf T0 p1 = some (r0, rl0, T9)) : GMi l dC dI LM ad km ea ev y_Model_checkThrough w_Model_checkThrough (rmD (d + 1)) [.ref (ad 0), .int p1] T0 r0 T9 := by
  intro sz
  refine Met.ofW (cc := b_Model_checkThrough) (maxL := 7) (ret := (some .int)) (by decide) rfl ?_
  intro p e s m args below meth c s₁ B hml hv
  obtain ⟨rfl, hsz, hP, hK, hD0, hnw, henv⟩ := hv
  have hx := B.exec
  have hb := B.bytes
  have hr := B.returns
  have hT : ∀ w ∈ lw_good, w.before _ s = true := fun w h => atoms_spec (ws := w_Model_checkThrough) B.pre w (List.mem_cons_of_mem _ h)
  have hown : s.vm.findClass R_Model = some m.cls := findClass_of_methodNamed B.named
  subst hsz
  have hD := hD0.self (sz := s.heap.size)
  clear hD0
  generalize hAe : va_A (gW LM ad km T0) s.heap.size = A at hD henv ⊢
  have hA : ∀ q : Nat, s.heap.size ≤ q → A q := fun q h => by rw [← hAe]; exact Or.inr h
  have hS : va_S A s.heap s.heap [] := va_S.rf
  have hl := lv_entry ([.ref (ad 0), .int p1]) (n := 7) (Nat.le_of_ble_eq_true rfl)
  rw [lg_entry_eq]
  generalize (lg_sl ([.ref (ad 0), .int p1]) ++ List.replicate (7 - (lg_sl ([.ref (ad 0), .int p1])).length) Slot.unset).toArray = ls at hl ⊢
  have hl : lv_has ls 7 [(0, .ref (ad 0)), (1, .int p1)] := hl
  obtain ⟨G, hG⟩ : ∃ G : Nat → List (Nat × Value) → List Value → gSt → Prop, G = (fun pc lv stk T => ∀ (H : Heap) (locs : List Loc), va_P (dC, dI) cls_all (gW LM ad km T) H → va_D A (gW LM ad km T) → va_S A s.heap H locs → ∀ (ls : Array Slot), lv_has ls 7 lv → W p l e (headSpec w_Model_checkThrough (rmD (d + 1))).room s m ([.ref (ad 0), .int p1] : List Value).toArray below meth c H locs 0 0 (MQ below (va_Qi (fun (z : Int32) (_ : Unit) => z = r0) (fun _ t => gPost dC dI LM ad km T9 A t) A) ([.ref (ad 0), .int p1] : List Value).toArray s 0 0 A) (F0 m pc ls stk)) := ⟨_, rfl⟩
  have lb_289 : ∀ (T : gSt) (x2 : Int32) (x5 : Int32) (x6 : Int32) (y0 : Int32) (y1 : Int32), rj_Model_checkThrough_289 F nf T x2 x5 x6 y0 y1 = some (r0, rl0, T9) → G 289 [(0, .ref (ad 0)), (2, .int x2), (5, .int x5), (6, .int x6)] [.int y0, .int y1, .ref (ad 0)] T := by
    intro T x2 x5 x6 y0 y1 hR; unfold rj_Model_checkThrough_289 at hR; rw [hG]; intro H locs hP hD hS ls hl
    refine lv_iadd hx hb d_Model_checkThrough_289 ?_
    refine wr_Model_698 hx hb hT hown hK hP hD hS d_Model_checkThrough_290 (fun T53 eT H locs hP hD hS => ?_)
    replace hR := stK_e eT hR
    clear eT
    refine lv_aload_n hx hb d_Model_checkThrough_293 rfl (lv_at hl 0 rfl) ?_
    refine lv_aload_n hx hb d_Model_checkThrough_294 rfl (lv_at hl 0 rfl) ?_
    refine rd_Model_51 hx hb hT hown hK hP d_Model_checkThrough_295 ?_
    refine lv_aload_n hx hb d_Model_checkThrough_298 rfl (lv_at hl 0 rfl) ?_
    refine rd_Model_36 hx hb hT hown hK hP d_Model_checkThrough_299 ?_
    refine lv_iload hx hb d_Model_checkThrough_302 (lv_at hl 2 rfl) ?_
    replace hR := gd_e hR
    obtain ⟨b54, hR⟩ := hR
    refine laM_7 hx hb hK hP b54 d_Model_checkThrough_304 ?_
    refine lv_iload hx hb d_Model_checkThrough_305 (lv_at hl 3 rfl) ?_
    refine lv_iadd hx hb d_Model_checkThrough_307 ?_
    replace hR := gd_e hR
    obtain ⟨b55, hR⟩ := hR
    refine laM_12 hx hb hK hP b55 d_Model_checkThrough_308 ?_
    refine lv_aload_n hx hb d_Model_checkThrough_309 rfl (lv_at hl 0 rfl) ?_
    refine rd_Model_168 hx hb hT hown hK hP d_Model_checkThrough_310 ?_
    refine lv_iload_n hx hb d_Model_checkThrough_313 rfl (lv_at hl 1 rfl) ?_
    replace hR := gd_e hR
    obtain ⟨b56, hR⟩ := hR
    refine laM_51 hx hb hK hP b56 d_Model_checkThrough_314 ?_
    replace hR := bi_e hR
    obtain ⟨r57, l57, T57, hc57, hR⟩ := hR
    refine gcV_i (rest := []) ⟨hx, hb, hml, hown, hT⟩ (h_Model_changed _ _ _ _ _ _ hc57) (cwV 2 hT (gV ml_Model_553 im_Model_changed se_Model_changed ini_Model co_Model_changed) rfl rfl rfl pd_Model_changed ⟨rm_hi, rm_lo (Nat.le_of_ble_eq_true rfl)⟩) hK hP hD hS hA hnw henv (Nat.le_of_ble_eq_true rfl) rfl rfl hl.1 rfl (Nat.le_of_ble_eq_true rfl) d_Model_checkThrough_315 ⟨Nat.le_refl _, Nat.le_refl _⟩ (fun H locs hP hD hS => ?_)
    clear hc57
    obtain ⟨e1, -, e3⟩ := re_e hR
    subst e1; subst e3
    exact W.iret (v := r57) hx hb hr (fun t ht hW => ⟨⟨r57, (), rfl, rfl, by rw [ht]; exact hP, va_K.moved hW.alike hK, hD⟩, hS.F ht⟩) hS.2.2 d_Model_checkThrough_318
  have lb_238 : ∀ (T : gSt) (x1 : Int32) (x2 : Int32) (x5 : Int32) (x6 : Int32), rj_Model_checkThrough_238 F nf T x1 x2 x5 x6 = some (r0, rl0, T9) → G 238 [(0, .ref (ad 0)), (1, .int x1), (2, .int x2), (5, .int x5), (6, .int x6)] [] T := by
    intro T x1 x2 x5 x6 hR; unfold rj_Model_checkThrough_238 at hR; rw [hG]; intro H locs hP hD hS ls hl
    refine lv_aload_n hx hb d_Model_checkThrough_238 rfl (lv_at hl 0 rfl) ?_
    replace hR := bi_e hR
    obtain ⟨r44, l44, T44, hc44, hR⟩ := hR
    refine gcV_i (rest := []) ⟨hx, hb, hml, hown, hT⟩ (h_Model_bad _ _ _ _ hc44) (cwV 0 hT (gV ml_Model_385 im_Model_bad se_Model_bad ini_Model co_Model_bad) rfl rfl rfl pd_Model_bad ⟨rm_hi, rm_lo (Nat.le_of_ble_eq_true rfl)⟩) hK hP hD hS hA hnw henv (Nat.le_of_ble_eq_true rfl) rfl rfl hl.1 rfl (Nat.le_of_ble_eq_true rfl) d_Model_checkThrough_239 ⟨Nat.le_refl _, Nat.le_refl _⟩ (fun H locs hP hD hS => ?_)
    clear hc44
    refine lv_if_eq (tgt := 247) hx hb d_Model_checkThrough_242 (by decide) (fun c45 => ?_) (fun c45 => ?_)
    · replace hR := if_p c45 hR
      refine lv_aload_n hx hb d_Model_checkThrough_247 rfl (lv_at hl 0 rfl) ?_
      refine rd_Model_153 hx hb hT hown hK hP d_Model_checkThrough_248 ?_
      refine lv_iload_n hx hb d_Model_checkThrough_251 rfl (lv_at hl 1 rfl) ?_
      refine lv_iload hx hb d_Model_checkThrough_252 (lv_at hl 4 rfl) ?_
      replace hR := gd_e hR
      obtain ⟨b46, hR⟩ := hR
      refine saM_46 hx hb hK hP hD hS b46 d_Model_checkThrough_254 (fun T46 eT H locs hP hD hS => ?_)
      replace hR := stK_e eT hR
      clear eT
      refine lv_aload_n hx hb d_Model_checkThrough_255 rfl (lv_at hl 0 rfl) ?_
      refine rd_Model_120 hx hb hT hown hK hP d_Model_checkThrough_256 ?_
      refine lv_iload_n hx hb d_Model_checkThrough_259 rfl (lv_at hl 1 rfl) ?_
      replace hR := gd_e hR
      obtain ⟨b47, hR⟩ := hR
      refine laM_35 hx hb hK hP b47 d_Model_checkThrough_260 ?_
      refine lv_bipush (v := 17) hx hb d_Model_checkThrough_261 (by decide) ?_
      refine lv_icmp_ne (tgt := 268) hx hb d_Model_checkThrough_263 (by decide) (fun c48 => ?_) (fun c48 => ?_)
      · replace hR := if_n c48 hR
        refine lv_aload_n hx hb d_Model_checkThrough_268 rfl (lv_at hl 0 rfl) ?_
        refine lv_dup hx hb d_Model_checkThrough_269 rfl ?_
        refine rd_Model_698 hx hb hT hown hK hP d_Model_checkThrough_270 ?_
        refine lv_aload_n hx hb d_Model_checkThrough_273 rfl (lv_at hl 0 rfl) ?_
        refine rd_Model_17 hx hb hT hown hK hP d_Model_checkThrough_274 ?_
        refine lv_iload hx hb d_Model_checkThrough_277 (lv_at hl 3 rfl) ?_
        replace hR := gd_e hR
        obtain ⟨b49, hR⟩ := hR
        refine laM_1 hx hb hK hP b49 d_Model_checkThrough_279 ?_
        refine lv_iconst (v := 1) hx hb d_Model_checkThrough_280 (by decide) ?_
        refine lv_icmp_ne (tgt := 288) hx hb d_Model_checkThrough_281 (by decide) (fun c50 => ?_) (fun c50 => ?_)
        · replace hR := if_n c50 hR
          refine lv_iconst (v := 0) hx hb d_Model_checkThrough_288 (by decide) ?_
          have g := lb_289 T46 x2 x5 x6 (0 : Int32) (T46.1 90 0) hR
          rw [hG] at g
          exact g _ _ hP hD hS _ (lv_sub hl [0, 2, 3, 4] rfl)
        · replace hR := if_p c50 hR
          refine lv_iconst (v := 1) hx hb d_Model_checkThrough_284 (by decide) ?_
          refine lv_goto (tgt := 289) hx hb d_Model_checkThrough_285 (by decide) ?_
          have g := lb_289 T46 x2 x5 x6 (1 : Int32) (T46.1 90 0) hR
          rw [hG] at g
          exact g _ _ hP hD hS _ (lv_sub hl [0, 2, 3, 4] rfl)
      · replace hR := if_p c48 hR
        refine lv_iconst (v := 0) hx hb d_Model_checkThrough_266 (by decide) ?_
        obtain ⟨e1, -, e3⟩ := re_e hR
        subst e1; subst e3
        exact W.iret (v := (0 : Int32)) hx hb hr (fun t ht hW => ⟨⟨(0 : Int32), (), rfl, rfl, by rw [ht]; exact hP, va_K.moved hW.alike hK, hD⟩, hS.F ht⟩) hS.2.2 d_Model_checkThrough_267
    · replace hR := if_n c45 hR
      refine lv_iconst (v := 0) hx hb d_Model_checkThrough_245 (by decide) ?_
      obtain ⟨e1, -, e3⟩ := re_e hR
      subst e1; subst e3
      exact W.iret (v := (0 : Int32)) hx hb hr (fun t ht hW => ⟨⟨(0 : Int32), (), rfl, rfl, by rw [ht]; exact hP, va_K.moved hW.alike hK, hD⟩, hS.F ht⟩) hS.2.2 d_Model_checkThrough_246
  have lb_185 : ∀ (T : gSt) (x1 : Int32) (x2 : Int32) (x3 : Int32) (y0 : Int32) (y1 : Int32), rj_Model_checkThrough_185 F nf T x1 x2 x3 y0 y1 = some (r0, rl0, T9) → G 185 [(0, .ref (ad 0)), (1, .int x1), (2, .int x2), (3, .int x3)] [.int y0, .int y1, .ref (ad 0)] T := by
    intro T x1 x2 x3 y0 y1 hR; unfold rj_Model_checkThrough_185 at hR; rw [hG]; intro H locs hP hD hS ls hl
    refine lv_iadd hx hb d_Model_checkThrough_185 ?_
    refine wr_Model_741 hx hb hT hown hK hP hD hS d_Model_checkThrough_186 (fun T33 eT H locs hP hD hS => ?_)
    replace hR := stK_e eT hR
    clear eT
    refine lv_iload_n hx hb d_Model_checkThrough_189 rfl (lv_at hl 3 rfl) ?_
    refine lv_if_ne (tgt := 200) hx hb d_Model_checkThrough_190 (by decide) (fun c34 => ?_) (fun c34 => ?_)
    · replace hR := if_n c34 hR
      refine lv_aload_n hx hb d_Model_checkThrough_200 rfl (lv_at hl 0 rfl) ?_
      refine rd_Model_165 hx hb hT hown hK hP d_Model_checkThrough_201 ?_
      refine lv_iload_n hx hb d_Model_checkThrough_204 rfl (lv_at hl 2 rfl) ?_
      replace hR := gd_e hR
      obtain ⟨b35, hR⟩ := hR
      refine laM_50 hx hb hK hP b35 d_Model_checkThrough_205 ?_
      refine lv_topi (fun z36 e36 => ?_)
      replace hR := vK_e e36 hR
      refine lv_istore (lv' := [(5, .int z36), (0, .ref (ad 0)), (1, .int x1), (2, .int x2), (3, .int x3)]) hx hb d_Model_checkThrough_206 hl (by decide) rfl (fun ls hl => ?_)
      refine lv_aload_n hx hb d_Model_checkThrough_208 rfl (lv_at hl 1 rfl) ?_
      refine lv_iload hx hb d_Model_checkThrough_209 (lv_at hl 0 rfl) ?_
      refine lv_aload_n hx hb d_Model_checkThrough_211 rfl (lv_at hl 1 rfl) ?_
      refine rd_Model_138 hx hb hT hown hK hP d_Model_checkThrough_212 ?_
      refine lv_iload_n hx hb d_Model_checkThrough_215 rfl (lv_at hl 2 rfl) ?_
      replace hR := gd_e hR
      obtain ⟨b37, hR⟩ := hR
      refine laM_41 hx hb hK hP b37 d_Model_checkThrough_216 ?_
      replace hR := bi_e hR
      obtain ⟨r38, l38, T38, hc38, hR⟩ := hR
      refine gcV_i (rest := []) ⟨hx, hb, hml, hown, hT⟩ (h_Model_findField _ _ _ _ _ _ hc38) (cwV 2 hT (gV ml_Model_612 im_Model_findField se_Model_findField ini_Model co_Model_findField) rfl rfl rfl pd_Model_findField ⟨rm_hi, rm_lo (Nat.le_of_ble_eq_true rfl)⟩) hK hP hD hS hA hnw henv (Nat.le_of_ble_eq_true rfl) rfl rfl hl.1 rfl (Nat.le_of_ble_eq_true rfl) d_Model_checkThrough_217 ⟨Nat.le_refl _, Nat.le_refl _⟩ (fun H locs hP hD hS => ?_)
      clear hc38
      refine lv_istore (lv' := [(6, .int r38), (5, .int z36), (0, .ref (ad 0)), (1, .int x1), (2, .int x2), (3, .int x3)]) hx hb d_Model_checkThrough_220 hl (by decide) rfl (fun ls hl => ?_)
      refine lv_iload hx hb d_Model_checkThrough_222 (lv_at hl 0 rfl) ?_
      refine lv_if_ge (tgt := 238) hx hb d_Model_checkThrough_224 (by decide) (fun c39 => ?_) (fun c39 => ?_)
      · replace hR := if_p c39 hR
        have g := lb_238 T38 x1 x2 z36 r38 hR
        rw [hG] at g
        exact g _ _ hP hD hS _ (lv_sub hl [2, 3, 4, 1, 0] rfl)
      · replace hR := if_n c39 hR
        refine lv_aload_n hx hb d_Model_checkThrough_227 rfl (lv_at hl 2 rfl) ?_
        refine lv_iconst (v := 3) hx hb d_Model_checkThrough_228 (by decide) ?_
        refine lv_aload_n hx hb d_Model_checkThrough_229 rfl (lv_at hl 2 rfl) ?_
        refine rd_Model_141 hx hb hT hown hK hP d_Model_checkThrough_230 ?_
        refine lv_iload_n hx hb d_Model_checkThrough_233 rfl (lv_at hl 3 rfl) ?_
        replace hR := gd_e hR
        obtain ⟨b40, hR⟩ := hR
        refine laM_42 hx hb hK hP b40 d_Model_checkThrough_234 ?_
        replace hR := bi_e hR
        obtain ⟨r41, l41, T41, hc41, hR⟩ := hR
        refine gcV_v (rest := []) ⟨hx, hb, hml, hown, hT⟩ (h_Model_fail _ _ _ _ _ _ hc41) (cwV 2 hT (gV ml_Model_381 im_Model_fail se_Model_fail ini_Model co_Model_fail) rfl rfl rfl pd_Model_fail ⟨rm_hi, rm_lo (Nat.le_of_ble_eq_true rfl)⟩) hK hP hD hS hA hnw henv (Nat.le_of_ble_eq_true rfl) rfl rfl hl.1 rfl (Nat.le_of_ble_eq_true rfl) d_Model_checkThrough_235 ⟨Nat.le_refl _, Nat.le_refl _⟩ (fun H locs hP hD hS => ?_)
        clear hc41
        have g := lb_238 T41 x1 x2 z36 r38 hR
        rw [hG] at g
        exact g _ _ hP hD hS _ (lv_sub hl [2, 3, 4, 1, 0] rfl)
    · replace hR := if_p c34 hR
      refine lv_aload_n hx hb d_Model_checkThrough_193 rfl (lv_at hl 0 rfl) ?_
      refine rd_Model_162 hx hb hT hown hK hP d_Model_checkThrough_194 ?_
      refine lv_iload_n hx hb d_Model_checkThrough_197 rfl (lv_at hl 2 rfl) ?_
      replace hR := gd_e hR
      obtain ⟨b42, hR⟩ := hR
      refine laM_49 hx hb hK hP b42 d_Model_checkThrough_198 ?_
      obtain ⟨e1, -, e3⟩ := re_e hR
      subst e1; subst e3
      exact W.iret (v := T33.1 68 x2.toNatClampNeg) hx hb hr (fun t ht hW => ⟨⟨T33.1 68 x2.toNatClampNeg, (), rfl, rfl, by rw [ht]; exact hP, va_K.moved hW.alike hK, hD⟩, hS.F ht⟩) hS.2.2 d_Model_checkThrough_199
  have lb_156 : ∀ (T : gSt) (x1 : Int32) (x2 : Int32) (x3 : Int32), rj_Model_checkThrough_156 F nf T x1 x2 x3 = some (r0, rl0, T9) → G 156 [(0, .ref (ad 0)), (1, .int x1), (2, .int x2), (3, .int x3)] [] T := by
    intro T x1 x2 x3 hR; unfold rj_Model_checkThrough_156 at hR; rw [hG]; intro H locs hP hD hS ls hl
    refine lv_aload_n hx hb d_Model_checkThrough_156 rfl (lv_at hl 0 rfl) ?_
    replace hR := bi_e hR
    obtain ⟨r28, l28, T28, hc28, hR⟩ := hR
    refine gcV_i (rest := []) ⟨hx, hb, hml, hown, hT⟩ (h_Model_bad _ _ _ _ hc28) (cwV 0 hT (gV ml_Model_385 im_Model_bad se_Model_bad ini_Model co_Model_bad) rfl rfl rfl pd_Model_bad ⟨rm_hi, rm_lo (Nat.le_of_ble_eq_true rfl)⟩) hK hP hD hS hA hnw henv (Nat.le_of_ble_eq_true rfl) rfl rfl hl.1 rfl (Nat.le_of_ble_eq_true rfl) d_Model_checkThrough_157 ⟨Nat.le_refl _, Nat.le_refl _⟩ (fun H locs hP hD hS => ?_)
    clear hc28
    refine lv_if_eq (tgt := 165) hx hb d_Model_checkThrough_160 (by decide) (fun c29 => ?_) (fun c29 => ?_)
    · replace hR := if_p c29 hR
      refine lv_aload_n hx hb d_Model_checkThrough_165 rfl (lv_at hl 0 rfl) ?_
      refine lv_dup hx hb d_Model_checkThrough_166 rfl ?_
      refine rd_Model_741 hx hb hT hown hK hP d_Model_checkThrough_167 ?_
      refine lv_aload_n hx hb d_Model_checkThrough_170 rfl (lv_at hl 0 rfl) ?_
      refine rd_Model_156 hx hb hT hown hK hP d_Model_checkThrough_171 ?_
      refine lv_iload_n hx hb d_Model_checkThrough_174 rfl (lv_at hl 2 rfl) ?_
      replace hR := gd_e hR
      obtain ⟨b30, hR⟩ := hR
      refine laM_47 hx hb hK hP b30 d_Model_checkThrough_175 ?_
      refine lv_iconst (v := 2) hx hb d_Model_checkThrough_176 (by decide) ?_
      refine lv_icmp_ne (tgt := 184) hx hb d_Model_checkThrough_177 (by decide) (fun c31 => ?_) (fun c31 => ?_)
      · replace hR := if_n c31 hR
        refine lv_iconst (v := 0) hx hb d_Model_checkThrough_184 (by decide) ?_
        have g := lb_185 T28 x1 x2 x3 (0 : Int32) (T28.1 88 0) hR
        rw [hG] at g
        exact g _ _ hP hD hS _ (lv_sub hl [0, 1, 2, 3] rfl)
      · replace hR := if_p c31 hR
        refine lv_iconst (v := 1) hx hb d_Model_checkThrough_180 (by decide) ?_
        refine lv_goto (tgt := 185) hx hb d_Model_checkThrough_181 (by decide) ?_
        have g := lb_185 T28 x1 x2 x3 (1 : Int32) (T28.1 88 0) hR
        rw [hG] at g
        exact g _ _ hP hD hS _ (lv_sub hl [0, 1, 2, 3] rfl)
    · replace hR := if_n c29 hR
      refine lv_iconst (v := 0) hx hb d_Model_checkThrough_163 (by decide) ?_
      obtain ⟨e1, -, e3⟩ := re_e hR
      subst e1; subst e3
      exact W.iret (v := (0 : Int32)) hx hb hr (fun t ht hW => ⟨⟨(0 : Int32), (), rfl, rfl, by rw [ht]; exact hP, va_K.moved hW.alike hK, hD⟩, hS.F ht⟩) hS.2.2 d_Model_checkThrough_164
  have lb_103 : ∀ (T : gSt) (x1 : Int32) (x2 : Int32) (x3 : Int32) (x4 : Int32), rj_Model_checkThrough_103 F nf T x1 x2 x3 x4 = some (r0, rl0, T9) → G 103 [(0, .ref (ad 0)), (1, .int x1), (2, .int x2), (3, .int x3), (4, .int x4)] [] T := by
    intro T x1 x2 x3 x4 hR; unfold rj_Model_checkThrough_103 at hR; rw [hG]; intro H locs hP hD hS ls hl
    refine lv_iload hx hb d_Model_checkThrough_103 (lv_at hl 4 rfl) ?_
    refine lv_if_ne (tgt := 127) hx hb d_Model_checkThrough_105 (by decide) (fun c18 => ?_) (fun c18 => ?_)
    · replace hR := if_n c18 hR
      refine lv_aload_n hx hb d_Model_checkThrough_127 rfl (lv_at hl 0 rfl) ?_
      refine lv_aload_n hx hb d_Model_checkThrough_128 rfl (lv_at hl 0 rfl) ?_
      refine rd_Model_159 hx hb hT hown hK hP d_Model_checkThrough_129 ?_
      refine lv_iload_n hx hb d_Model_checkThrough_132 rfl (lv_at hl 2 rfl) ?_
      replace hR := gd_e hR
      obtain ⟨b19, hR⟩ := hR
      refine laM_48 hx hb hK hP b19 d_Model_checkThrough_133 ?_
      replace hR := bi_e hR
      obtain ⟨r20, l20, T20, hc20, hR⟩ := hR
      refine gcV_i (rest := []) ⟨hx, hb, hml, hown, hT⟩ (h_Model_isLive _ _ _ _ _ hc20) (cwV 1 hT (gV ml_Model_581 im_Model_isLive se_Model_isLive ini_Model co_Model_isLive) rfl rfl rfl pd_Model_isLive ⟨rm_hi, rm_lo (Nat.le_of_ble_eq_true rfl)⟩) hK hP hD hS hA hnw henv (Nat.le_of_ble_eq_true rfl) rfl rfl hl.1 rfl (Nat.le_of_ble_eq_true rfl) d_Model_checkThrough_134 ⟨Nat.le_refl _, Nat.le_refl _⟩ (fun H locs hP hD hS => ?_)
      clear hc20
      refine lv_if_ne (tgt := 156) hx hb d_Model_checkThrough_137 (by decide) (fun c21 => ?_) (fun c21 => ?_)
      · replace hR := if_n c21 hR
        have g := lb_156 T20 x1 x2 x3 hR
        rw [hG] at g
        exact g _ _ hP hD hS _ (lv_sub hl [0, 1, 2, 3] rfl)
      · replace hR := if_p c21 hR
        refine lv_aload_n hx hb d_Model_checkThrough_140 rfl (lv_at hl 0 rfl) ?_
        refine lv_iconst (v := 5) hx hb d_Model_checkThrough_141 (by decide) ?_
        refine lv_aload_n hx hb d_Model_checkThrough_142 rfl (lv_at hl 0 rfl) ?_
        refine rd_Model_123 hx hb hT hown hK hP d_Model_checkThrough_143 ?_
        refine lv_aload_n hx hb d_Model_checkThrough_146 rfl (lv_at hl 0 rfl) ?_
        refine rd_Model_126 hx hb hT hown hK hP d_Model_checkThrough_147 ?_
        refine lv_iload_n hx hb d_Model_checkThrough_150 rfl (lv_at hl 1 rfl) ?_
        replace hR := gd_e hR
        obtain ⟨b22, hR⟩ := hR
        refine laM_37 hx hb hK hP b22 d_Model_checkThrough_151 ?_
        replace hR := gd_e hR
        obtain ⟨b23, hR⟩ := hR
        refine laM_36 hx hb hK hP b23 d_Model_checkThrough_152 ?_
        replace hR := bi_e hR
        obtain ⟨r24, l24, T24, hc24, hR⟩ := hR
        refine gcV_v (rest := []) ⟨hx, hb, hml, hown, hT⟩ (h_Model_fail _ _ _ _ _ _ hc24) (cwV 2 hT (gV ml_Model_381 im_Model_fail se_Model_fail ini_Model co_Model_fail) rfl rfl rfl pd_Model_fail ⟨rm_hi, rm_lo (Nat.le_of_ble_eq_true rfl)⟩) hK hP hD hS hA hnw henv (Nat.le_of_ble_eq_true rfl) rfl rfl hl.1 rfl (Nat.le_of_ble_eq_true rfl) d_Model_checkThrough_153 ⟨Nat.le_refl _, Nat.le_refl _⟩ (fun H locs hP hD hS => ?_)
        clear hc24
        have g := lb_156 T24 x1 x2 x3 hR
        rw [hG] at g
        exact g _ _ hP hD hS _ (lv_sub hl [0, 1, 2, 3] rfl)
    · replace hR := if_p c18 hR
      refine lv_aload_n hx hb d_Model_checkThrough_108 rfl (lv_at hl 0 rfl) ?_
      refine lv_iconst (v := 4) hx hb d_Model_checkThrough_109 (by decide) ?_
      refine lv_aload_n hx hb d_Model_checkThrough_110 rfl (lv_at hl 0 rfl) ?_
      refine rd_Model_123 hx hb hT hown hK hP d_Model_checkThrough_111 ?_
      refine lv_aload_n hx hb d_Model_checkThrough_114 rfl (lv_at hl 0 rfl) ?_
      refine rd_Model_126 hx hb hT hown hK hP d_Model_checkThrough_115 ?_
      refine lv_iload_n hx hb d_Model_checkThrough_118 rfl (lv_at hl 1 rfl) ?_
      replace hR := gd_e hR
      obtain ⟨b25, hR⟩ := hR
      refine laM_37 hx hb hK hP b25 d_Model_checkThrough_119 ?_
      replace hR := gd_e hR
      obtain ⟨b26, hR⟩ := hR
      refine laM_36 hx hb hK hP b26 d_Model_checkThrough_120 ?_
      replace hR := bi_e hR
      obtain ⟨r27, l27, T27, hc27, hR⟩ := hR
      refine gcV_v (rest := []) ⟨hx, hb, hml, hown, hT⟩ (h_Model_fail _ _ _ _ _ _ hc27) (cwV 2 hT (gV ml_Model_381 im_Model_fail se_Model_fail ini_Model co_Model_fail) rfl rfl rfl pd_Model_fail ⟨rm_hi, rm_lo (Nat.le_of_ble_eq_true rfl)⟩) hK hP hD hS hA hnw henv (Nat.le_of_ble_eq_true rfl) rfl rfl hl.1 rfl (Nat.le_of_ble_eq_true rfl) d_Model_checkThrough_121 ⟨Nat.le_refl _, Nat.le_refl _⟩ (fun H locs hP hD hS => ?_)
      clear hc27
      refine lv_goto (tgt := 156) hx hb d_Model_checkThrough_124 (by decide) ?_
      have g := lb_156 T27 x1 x2 x3 hR
      rw [hG] at g
      exact g _ _ hP hD hS _ (lv_sub hl [0, 1, 2, 3] rfl)
  have lb_63 : ∀ (T : gSt) (x1 : Int32) (x2 : Int32) (x3 : Int32) (y0 : Int32), rj_Model_checkThrough_63 F nf T x1 x2 x3 y0 = some (r0, rl0, T9) → G 63 [(0, .ref (ad 0)), (1, .int x1), (2, .int x2), (3, .int x3)] [.int y0] T := by
    intro T x1 x2 x3 y0 hR; unfold rj_Model_checkThrough_63 at hR; rw [hG]; intro H locs hP hD hS ls hl
    refine lv_istore (lv' := [(4, .int y0), (0, .ref (ad 0)), (1, .int x1), (2, .int x2), (3, .int x3)]) hx hb d_Model_checkThrough_63 hl (by decide) rfl (fun ls hl => ?_)
    refine lv_iload hx hb d_Model_checkThrough_65 (lv_at hl 0 rfl) ?_
    refine lv_if_eq (tgt := 103) hx hb d_Model_checkThrough_67 (by decide) (fun c12 => ?_) (fun c12 => ?_)
    · replace hR := if_p c12 hR
      have g := lb_103 T x1 x2 x3 y0 hR
      rw [hG] at g
      exact g _ _ hP hD hS _ (lv_sub hl [1, 2, 3, 4, 0] rfl)
    · replace hR := if_n c12 hR
      refine lv_aload_n hx hb d_Model_checkThrough_70 rfl (lv_at hl 1 rfl) ?_
      refine rd_Model_120 hx hb hT hown hK hP d_Model_checkThrough_71 ?_
      refine lv_iload_n hx hb d_Model_checkThrough_74 rfl (lv_at hl 2 rfl) ?_
      replace hR := gd_e hR
      obtain ⟨b13, hR⟩ := hR
      refine laM_35 hx hb hK hP b13 d_Model_checkThrough_75 ?_
      refine lv_bipush (v := 17) hx hb d_Model_checkThrough_76 (by decide) ?_
      refine lv_icmp_ne (tgt := 103) hx hb d_Model_checkThrough_78 (by decide) (fun c14 => ?_) (fun c14 => ?_)
      · replace hR := if_n c14 hR
        have g := lb_103 T x1 x2 x3 y0 hR
        rw [hG] at g
        exact g _ _ hP hD hS _ (lv_sub hl [1, 2, 3, 4, 0] rfl)
      · replace hR := if_p c14 hR
        refine lv_aload_n hx hb d_Model_checkThrough_81 rfl (lv_at hl 1 rfl) ?_
        refine rd_Model_17 hx hb hT hown hK hP d_Model_checkThrough_82 ?_
        refine lv_aload_n hx hb d_Model_checkThrough_85 rfl (lv_at hl 1 rfl) ?_
        refine rd_Model_165 hx hb hT hown hK hP d_Model_checkThrough_86 ?_
        refine lv_iload_n hx hb d_Model_checkThrough_89 rfl (lv_at hl 3 rfl) ?_
        replace hR := gd_e hR
        obtain ⟨b15, hR⟩ := hR
        refine laM_50 hx hb hK hP b15 d_Model_checkThrough_90 ?_
        replace hR := gd_e hR
        obtain ⟨b16, hR⟩ := hR
        refine laM_1 hx hb hK hP b16 d_Model_checkThrough_91 ?_
        refine lv_iconst (v := 1) hx hb d_Model_checkThrough_92 (by decide) ?_
        refine lv_icmp_ne (tgt := 100) hx hb d_Model_checkThrough_93 (by decide) (fun c17 => ?_) (fun c17 => ?_)
        · replace hR := if_n c17 hR
          refine lv_iconst (v := 0) hx hb d_Model_checkThrough_100 (by decide) ?_
          refine lv_istore (lv' := [(4, .int (0 : Int32)), (0, .ref (ad 0)), (1, .int x1), (2, .int x2), (3, .int x3)]) hx hb d_Model_checkThrough_101 hl (by decide) rfl (fun ls hl => ?_)
          have g := lb_103 T x1 x2 x3 (0 : Int32) hR
          rw [hG] at g
          exact g _ _ hP hD hS _ (lv_sub hl [1, 2, 3, 4, 0] rfl)
        · replace hR := if_p c17 hR
          refine lv_iconst (v := 1) hx hb d_Model_checkThrough_96 (by decide) ?_
          refine lv_goto (tgt := 101) hx hb d_Model_checkThrough_97 (by decide) ?_
          refine lv_istore (lv' := [(4, .int (1 : Int32)), (0, .ref (ad 0)), (1, .int x1), (2, .int x2), (3, .int x3)]) hx hb d_Model_checkThrough_101 hl (by decide) rfl (fun ls hl => ?_)
          have g := lb_103 T x1 x2 x3 (1 : Int32) hR
          rw [hG] at g
          exact g _ _ hP hD hS _ (lv_sub hl [1, 2, 3, 4, 0] rfl)
  have lb_28 : ∀ (T : gSt) (x1 : Int32) (x2 : Int32) (y0 : Int32), rj_Model_checkThrough_28 F nf T x1 x2 y0 = some (r0, rl0, T9) → G 28 [(0, .ref (ad 0)), (1, .int x1), (2, .int x2)] [.int y0] T := by
    intro T x1 x2 y0 hR; unfold rj_Model_checkThrough_28 at hR; rw [hG]; intro H locs hP hD hS ls hl
    refine lv_istore_n (lv' := [(3, .int y0), (0, .ref (ad 0)), (1, .int x1), (2, .int x2)]) hx hb d_Model_checkThrough_28 rfl hl (by decide) rfl (fun ls hl => ?_)
    refine lv_iload_n hx hb d_Model_checkThrough_29 rfl (lv_at hl 0 rfl) ?_
    refine lv_if_eq (tgt := 41) hx hb d_Model_checkThrough_30 (by decide) (fun c6 => ?_) (fun c6 => ?_)
    · replace hR := if_p c6 hR
      refine lv_aload_n hx hb d_Model_checkThrough_41 rfl (lv_at hl 1 rfl) ?_
      refine lv_iload_n hx hb d_Model_checkThrough_42 rfl (lv_at hl 3 rfl) ?_
      replace hR := bi_e hR
      obtain ⟨r7, l7, T7, hc7, hR⟩ := hR
      refine gcV_i (rest := []) ⟨hx, hb, hml, hown, hT⟩ (h_Model_isPointer _ _ _ _ _ hc7) (cwV 1 hT (gV ml_Model_560 im_Model_isPointer se_Model_isPointer ini_Model co_Model_isPointer) rfl rfl rfl pd_Model_isPointer ⟨rm_hi, rm_lo (Nat.le_of_ble_eq_true rfl)⟩) hK hP hD hS hA hnw henv (Nat.le_of_ble_eq_true rfl) rfl rfl hl.1 rfl (Nat.le_of_ble_eq_true rfl) d_Model_checkThrough_43 ⟨Nat.le_refl _, Nat.le_refl _⟩ (fun H locs hP hD hS => ?_)
      clear hc7
      refine lv_if_eq (tgt := 62) hx hb d_Model_checkThrough_46 (by decide) (fun c8 => ?_) (fun c8 => ?_)
      · replace hR := if_p c8 hR
        refine lv_iconst (v := 0) hx hb d_Model_checkThrough_62 (by decide) ?_
        have g := lb_63 T7 x1 x2 y0 (0 : Int32) hR
        rw [hG] at g
        exact g _ _ hP hD hS _ (lv_sub hl [1, 2, 3, 0] rfl)
      · replace hR := if_n c8 hR
        refine lv_aload_n hx hb d_Model_checkThrough_49 rfl (lv_at hl 1 rfl) ?_
        refine rd_Model_165 hx hb hT hown hK hP d_Model_checkThrough_50 ?_
        refine lv_iload_n hx hb d_Model_checkThrough_53 rfl (lv_at hl 3 rfl) ?_
        replace hR := gd_e hR
        obtain ⟨b9, hR⟩ := hR
        refine laM_50 hx hb hK hP b9 d_Model_checkThrough_54 ?_
        refine lv_if_ge (tgt := 62) hx hb d_Model_checkThrough_55 (by decide) (fun c10 => ?_) (fun c10 => ?_)
        · replace hR := if_p c10 hR
          refine lv_iconst (v := 0) hx hb d_Model_checkThrough_62 (by decide) ?_
          have g := lb_63 T7 x1 x2 y0 (0 : Int32) hR
          rw [hG] at g
          exact g _ _ hP hD hS _ (lv_sub hl [1, 2, 3, 0] rfl)
        · replace hR := if_n c10 hR
          refine lv_iconst (v := 1) hx hb d_Model_checkThrough_58 (by decide) ?_
          refine lv_goto (tgt := 63) hx hb d_Model_checkThrough_59 (by decide) ?_
          have g := lb_63 T7 x1 x2 y0 (1 : Int32) hR
          rw [hG] at g
          exact g _ _ hP hD hS _ (lv_sub hl [1, 2, 3, 0] rfl)
    · replace hR := if_n c6 hR
      refine lv_aload_n hx hb d_Model_checkThrough_33 rfl (lv_at hl 1 rfl) ?_
      refine lv_iload_n hx hb d_Model_checkThrough_34 rfl (lv_at hl 3 rfl) ?_
      replace hR := bi_e hR
      obtain ⟨r11, l11, T11, hc11, hR⟩ := hR
      refine gcV_i (rest := []) ⟨hx, hb, hml, hown, hT⟩ (h_Model_isTitled _ _ _ _ _ hc11) (cwV 1 hT (gV ml_Model_756 im_Model_isTitled se_Model_isTitled ini_Model co_Model_isTitled) rfl rfl rfl pd_Model_isTitled ⟨rm_hi, rm_lo (Nat.le_of_ble_eq_true rfl)⟩) hK hP hD hS hA hnw henv (Nat.le_of_ble_eq_true rfl) rfl rfl hl.1 rfl (Nat.le_of_ble_eq_true rfl) d_Model_checkThrough_35 ⟨Nat.le_refl _, Nat.le_refl _⟩ (fun H locs hP hD hS => ?_)
      clear hc11
      refine lv_goto (tgt := 63) hx hb d_Model_checkThrough_38 (by decide) ?_
      have g := lb_63 T11 x1 x2 y0 r11 hR
      rw [hG] at g
      exact g _ _ hP hD hS _ (lv_sub hl [1, 2, 3, 0] rfl)
  unfold rb_Model_checkThrough at hR
  refine lv_aload_n hx hb d_Model_checkThrough_0 rfl (lv_at hl 0 rfl) ?_
  refine rd_Model_150 hx hb hT hown hK hP d_Model_checkThrough_1 ?_
  refine lv_aload_n hx hb d_Model_checkThrough_4 rfl (lv_at hl 0 rfl) ?_
  refine rd_Model_126 hx hb hT hown hK hP d_Model_checkThrough_5 ?_
  refine lv_iload_n hx hb d_Model_checkThrough_8 rfl (lv_at hl 1 rfl) ?_
  replace hR := gd_e hR
  obtain ⟨b1, hR⟩ := hR
  refine laM_37 hx hb hK hP b1 d_Model_checkThrough_9 ?_
  replace hR := gd_e hR
  obtain ⟨b2, hR⟩ := hR
  refine laM_45 hx hb hK hP b2 d_Model_checkThrough_10 ?_
  refine lv_topi (fun z3 e3 => ?_)
  replace hR := vK_e e3 hR
  refine lv_istore_n (lv' := [(2, .int z3), (0, .ref (ad 0)), (1, .int p1)]) hx hb d_Model_checkThrough_11 rfl hl (by decide) rfl (fun ls hl => ?_)
  refine lv_aload_n hx hb d_Model_checkThrough_12 rfl (lv_at hl 1 rfl) ?_
  refine rd_Model_120 hx hb hT hown hK hP d_Model_checkThrough_13 ?_
  refine lv_iload_n hx hb d_Model_checkThrough_16 rfl (lv_at hl 2 rfl) ?_
  replace hR := gd_e hR
  obtain ⟨b4, hR⟩ := hR
  refine laM_35 hx hb hK hP b4 d_Model_checkThrough_17 ?_
  refine lv_bipush (v := 16) hx hb d_Model_checkThrough_18 (by decide) ?_
  refine lv_icmp_eq (tgt := 27) hx hb d_Model_checkThrough_20 (by decide) (fun c5 => ?_) (fun c5 => ?_)
  · replace hR := if_p c5 hR
    refine lv_iconst (v := 0) hx hb d_Model_checkThrough_27 (by decide) ?_
    have g := lb_28 T0 p1 z3 (0 : Int32) hR
    rw [hG] at g
    exact g _ _ hP hD hS _ (lv_sub hl [1, 2, 0] rfl)
  · replace hR := if_n c5 hR
    refine lv_iconst (v := 1) hx hb d_Model_checkThrough_23 (by decide) ?_
    refine lv_goto (tgt := 28) hx hb d_Model_checkThrough_24 (by decide) ?_
    have g := lb_28 T0 p1 z3 (1 : Int32) hR
    rw [hG] at g
    exact g _ _ hP hD hS _ (lv_sub hl [1, 2, 0] rfl)
set_option maxHeartbeats 4000000 in
set_option maxRecDepth 100000 in
theorem sp_Model_checkIndex (l : Launch) (dC : Nat → ClassId) (dI : Nat → Nat → Nat) (ea ev ad : Nat → Nat) (km : Nat → ClassId) (F : gF) (nf d : Nat) (h_Model_check : mt_Model_check l dC dI ea ev ad km F d) (h_Model_bad : mt_Model_bad l dC dI ea ev ad km F d) (h_Model_isRow : mt_Model_isRow l dC dI ea ev ad km F d) (h_Model_isLive : mt_Model_isLive l dC dI ea ev ad km F d) (h_Model_fail : mt_Model_fail l dC dI ea ev ad km F d) (T0 : gSt) (p1 : Int32) (r0 : Int32) (rl0 : Int64) (T9 : gSt) (hR : rb_Model_checkIndex F nf T0 p1 = some (r0, rl0, T9)) : GMi l dC dI LM ad km ea ev y_Model_checkIndex w_Model_checkIndex (rmD (d + 1)) [.ref (ad 0), .int p1] T0 r0 T9 := by
  intro sz
  refine Met.ofW (cc := b_Model_checkIndex) (maxL := 4) (ret := (some .int)) (by decide) rfl ?_
  intro p e s m args below meth c s₁ B hml hv
  obtain ⟨rfl, hsz, hP, hK, hD0, hnw, henv⟩ := hv
  have hx := B.exec
  have hb := B.bytes
  have hr := B.returns
  have hT : ∀ w ∈ lw_good, w.before _ s = true := fun w h => atoms_spec (ws := w_Model_checkIndex) B.pre w (List.mem_cons_of_mem _ h)
  have hown : s.vm.findClass R_Model = some m.cls := findClass_of_methodNamed B.named
  subst hsz
  have hD := hD0.self (sz := s.heap.size)
  clear hD0
  generalize hAe : va_A (gW LM ad km T0) s.heap.size = A at hD henv ⊢
  have hA : ∀ q : Nat, s.heap.size ≤ q → A q := fun q h => by rw [← hAe]; exact Or.inr h
  have hS : va_S A s.heap s.heap [] := va_S.rf
  have hl := lv_entry ([.ref (ad 0), .int p1]) (n := 4) (Nat.le_of_ble_eq_true rfl)
  rw [lg_entry_eq]
  generalize (lg_sl ([.ref (ad 0), .int p1]) ++ List.replicate (4 - (lg_sl ([.ref (ad 0), .int p1])).length) Slot.unset).toArray = ls at hl ⊢
  have hl : lv_has ls 4 [(0, .ref (ad 0)), (1, .int p1)] := hl
  obtain ⟨G, hG⟩ : ∃ G : Nat → List (Nat × Value) → List Value → gSt → Prop, G = (fun pc lv stk T => ∀ (H : Heap) (locs : List Loc), va_P (dC, dI) cls_all (gW LM ad km T) H → va_D A (gW LM ad km T) → va_S A s.heap H locs → ∀ (ls : Array Slot), lv_has ls 4 lv → W p l e (headSpec w_Model_checkIndex (rmD (d + 1))).room s m ([.ref (ad 0), .int p1] : List Value).toArray below meth c H locs 0 0 (MQ below (va_Qi (fun (z : Int32) (_ : Unit) => z = r0) (fun _ t => gPost dC dI LM ad km T9 A t) A) ([.ref (ad 0), .int p1] : List Value).toArray s 0 0 A) (F0 m pc ls stk)) := ⟨_, rfl⟩
  have lb_111 : ∀ (T : gSt) (x2 : Int32), rj_Model_checkIndex_111 F nf T x2 = some (r0, rl0, T9) → G 111 [(0, .ref (ad 0)), (2, .int x2)] [] T := by
    intro T x2 hR; unfold rj_Model_checkIndex_111 at hR; rw [hG]; intro H locs hP hD hS ls hl
    refine lv_aload_n hx hb d_Model_checkIndex_111 rfl (lv_at hl 0 rfl) ?_
    replace hR := bi_e hR
    obtain ⟨r24, l24, T24, hc24, hR⟩ := hR
    refine gcV_i (rest := []) ⟨hx, hb, hml, hown, hT⟩ (h_Model_bad _ _ _ _ hc24) (cwV 0 hT (gV ml_Model_385 im_Model_bad se_Model_bad ini_Model co_Model_bad) rfl rfl rfl pd_Model_bad ⟨rm_hi, rm_lo (Nat.le_of_ble_eq_true rfl)⟩) hK hP hD hS hA hnw henv (Nat.le_of_ble_eq_true rfl) rfl rfl hl.1 rfl (Nat.le_of_ble_eq_true rfl) d_Model_checkIndex_112 ⟨Nat.le_refl _, Nat.le_refl _⟩ (fun H locs hP hD hS => ?_)
    clear hc24
    refine lv_if_eq (tgt := 120) hx hb d_Model_checkIndex_115 (by decide) (fun c25 => ?_) (fun c25 => ?_)
    · replace hR := if_p c25 hR
      refine lv_aload_n hx hb d_Model_checkIndex_120 rfl (lv_at hl 0 rfl) ?_
      refine lv_dup hx hb d_Model_checkIndex_121 rfl ?_
      refine rd_Model_759 hx hb hT hown hK hP d_Model_checkIndex_122 ?_
      refine lv_iconst (v := 1) hx hb d_Model_checkIndex_125 (by decide) ?_
      refine lv_iadd hx hb d_Model_checkIndex_126 ?_
      refine wr_Model_759 hx hb hT hown hK hP hD hS d_Model_checkIndex_127 (fun T26 eT H locs hP hD hS => ?_)
      replace hR := stK_e eT hR
      clear eT
      refine lv_aload_n hx hb d_Model_checkIndex_130 rfl (lv_at hl 0 rfl) ?_
      refine rd_Model_162 hx hb hT hown hK hP d_Model_checkIndex_131 ?_
      refine lv_iload_n hx hb d_Model_checkIndex_134 rfl (lv_at hl 1 rfl) ?_
      replace hR := gd_e hR
      obtain ⟨b27, hR⟩ := hR
      refine laM_49 hx hb hK hP b27 d_Model_checkIndex_135 ?_
      obtain ⟨e1, -, e3⟩ := re_e hR
      subst e1; subst e3
      exact W.iret (v := T26.1 68 x2.toNatClampNeg) hx hb hr (fun t ht hW => ⟨⟨T26.1 68 x2.toNatClampNeg, (), rfl, rfl, by rw [ht]; exact hP, va_K.moved hW.alike hK, hD⟩, hS.F ht⟩) hS.2.2 d_Model_checkIndex_136
    · replace hR := if_n c25 hR
      refine lv_iconst (v := 0) hx hb d_Model_checkIndex_118 (by decide) ?_
      obtain ⟨e1, -, e3⟩ := re_e hR
      subst e1; subst e3
      exact W.iret (v := (0 : Int32)) hx hb hr (fun t ht hW => ⟨⟨(0 : Int32), (), rfl, rfl, by rw [ht]; exact hP, va_K.moved hW.alike hK, hD⟩, hS.F ht⟩) hS.2.2 d_Model_checkIndex_119
  unfold rb_Model_checkIndex at hR
  refine lv_aload_n hx hb d_Model_checkIndex_0 rfl (lv_at hl 0 rfl) ?_
  refine rd_Model_150 hx hb hT hown hK hP d_Model_checkIndex_1 ?_
  refine lv_aload_n hx hb d_Model_checkIndex_4 rfl (lv_at hl 0 rfl) ?_
  refine rd_Model_126 hx hb hT hown hK hP d_Model_checkIndex_5 ?_
  refine lv_iload_n hx hb d_Model_checkIndex_8 rfl (lv_at hl 1 rfl) ?_
  replace hR := gd_e hR
  obtain ⟨b1, hR⟩ := hR
  refine laM_37 hx hb hK hP b1 d_Model_checkIndex_9 ?_
  replace hR := gd_e hR
  obtain ⟨b2, hR⟩ := hR
  refine laM_45 hx hb hK hP b2 d_Model_checkIndex_10 ?_
  refine lv_topi (fun z3 e3 => ?_)
  replace hR := vK_e e3 hR
  refine lv_istore_n (lv' := [(2, .int z3), (0, .ref (ad 0)), (1, .int p1)]) hx hb d_Model_checkIndex_11 rfl hl (by decide) rfl (fun ls hl => ?_)
  refine lv_aload_n hx hb d_Model_checkIndex_12 rfl (lv_at hl 1 rfl) ?_
  refine lv_aload_n hx hb d_Model_checkIndex_13 rfl (lv_at hl 1 rfl) ?_
  refine rd_Model_129 hx hb hT hown hK hP d_Model_checkIndex_14 ?_
  refine lv_iload_n hx hb d_Model_checkIndex_17 rfl (lv_at hl 2 rfl) ?_
  replace hR := gd_e hR
  obtain ⟨b4, hR⟩ := hR
  refine laM_38 hx hb hK hP b4 d_Model_checkIndex_18 ?_
  replace hR := bi_e hR
  obtain ⟨r5, l5, T5, hc5, hR⟩ := hR
  refine gcV_i (rest := []) ⟨hx, hb, hml, hown, hT⟩ (h_Model_check _ _ _ _ _ hc5) (cwV 1 hT (gV ml_Model_652 im_Model_check se_Model_check ini_Model co_Model_check) rfl rfl rfl pd_Model_check ⟨rm_hi, rm_lo (Nat.le_of_ble_eq_true rfl)⟩) hK hP hD hS hA hnw henv (Nat.le_of_ble_eq_true rfl) rfl rfl hl.1 rfl (Nat.le_of_ble_eq_true rfl) d_Model_checkIndex_19 ⟨Nat.le_refl _, Nat.le_refl _⟩ (fun H locs hP hD hS => ?_)
  clear hc5
  refine lv_istore_n (lv' := [(3, .int r5), (2, .int z3), (0, .ref (ad 0)), (1, .int p1)]) hx hb d_Model_checkIndex_22 rfl hl (by decide) rfl (fun ls hl => ?_)
  refine lv_aload_n hx hb d_Model_checkIndex_23 rfl (lv_at hl 2 rfl) ?_
  replace hR := bi_e hR
  obtain ⟨r6, l6, T6, hc6, hR⟩ := hR
  refine gcV_i (rest := []) ⟨hx, hb, hml, hown, hT⟩ (h_Model_bad _ _ _ _ hc6) (cwV 0 hT (gV ml_Model_385 im_Model_bad se_Model_bad ini_Model co_Model_bad) rfl rfl rfl pd_Model_bad ⟨rm_hi, rm_lo (Nat.le_of_ble_eq_true rfl)⟩) hK hP hD hS hA hnw henv (Nat.le_of_ble_eq_true rfl) rfl rfl hl.1 rfl (Nat.le_of_ble_eq_true rfl) d_Model_checkIndex_24 ⟨Nat.le_refl _, Nat.le_refl _⟩ (fun H locs hP hD hS => ?_)
  clear hc6
  refine lv_if_eq (tgt := 32) hx hb d_Model_checkIndex_27 (by decide) (fun c7 => ?_) (fun c7 => ?_)
  · replace hR := if_p c7 hR
    refine lv_aload_n hx hb d_Model_checkIndex_32 rfl (lv_at hl 2 rfl) ?_
    refine lv_iload_n hx hb d_Model_checkIndex_33 rfl (lv_at hl 1 rfl) ?_
    replace hR := bi_e hR
    obtain ⟨r8, l8, T8, hc8, hR⟩ := hR
    refine gcV_i (rest := []) ⟨hx, hb, hml, hown, hT⟩ (h_Model_isRow _ _ _ _ _ hc8) (cwV 1 hT (gV ml_Model_744 im_Model_isRow se_Model_isRow ini_Model co_Model_isRow) rfl rfl rfl pd_Model_isRow ⟨rm_hi, rm_lo (Nat.le_of_ble_eq_true rfl)⟩) hK hP hD hS hA hnw henv (Nat.le_of_ble_eq_true rfl) rfl rfl hl.1 rfl (Nat.le_of_ble_eq_true rfl) d_Model_checkIndex_34 ⟨Nat.le_refl _, Nat.le_refl _⟩ (fun H locs hP hD hS => ?_)
    clear hc8
    refine lv_if_ne (tgt := 59) hx hb d_Model_checkIndex_37 (by decide) (fun c9 => ?_) (fun c9 => ?_)
    · replace hR := if_n c9 hR
      refine lv_aload_n hx hb d_Model_checkIndex_59 rfl (lv_at hl 2 rfl) ?_
      refine lv_aload_n hx hb d_Model_checkIndex_60 rfl (lv_at hl 2 rfl) ?_
      refine rd_Model_159 hx hb hT hown hK hP d_Model_checkIndex_61 ?_
      refine lv_iload_n hx hb d_Model_checkIndex_64 rfl (lv_at hl 1 rfl) ?_
      replace hR := gd_e hR
      obtain ⟨b10, hR⟩ := hR
      refine laM_48 hx hb hK hP b10 d_Model_checkIndex_65 ?_
      replace hR := bi_e hR
      obtain ⟨r11, l11, T11, hc11, hR⟩ := hR
      refine gcV_i (rest := []) ⟨hx, hb, hml, hown, hT⟩ (h_Model_isLive _ _ _ _ _ hc11) (cwV 1 hT (gV ml_Model_581 im_Model_isLive se_Model_isLive ini_Model co_Model_isLive) rfl rfl rfl pd_Model_isLive ⟨rm_hi, rm_lo (Nat.le_of_ble_eq_true rfl)⟩) hK hP hD hS hA hnw henv (Nat.le_of_ble_eq_true rfl) rfl rfl hl.1 rfl (Nat.le_of_ble_eq_true rfl) d_Model_checkIndex_66 ⟨Nat.le_refl _, Nat.le_refl _⟩ (fun H locs hP hD hS => ?_)
      clear hc11
      refine lv_if_ne (tgt := 91) hx hb d_Model_checkIndex_69 (by decide) (fun c12 => ?_) (fun c12 => ?_)
      · replace hR := if_n c12 hR
        refine lv_iload_n hx hb d_Model_checkIndex_91 rfl (lv_at hl 0 rfl) ?_
        refine lv_if_eq (tgt := 111) hx hb d_Model_checkIndex_92 (by decide) (fun c13 => ?_) (fun c13 => ?_)
        · replace hR := if_p c13 hR
          have g := lb_111 T11 z3 hR
          rw [hG] at g
          exact g _ _ hP hD hS _ (lv_sub hl [2, 1] rfl)
        · replace hR := if_n c13 hR
          refine lv_aload_n hx hb d_Model_checkIndex_95 rfl (lv_at hl 2 rfl) ?_
          refine lv_iconst (v := 4) hx hb d_Model_checkIndex_96 (by decide) ?_
          refine lv_aload_n hx hb d_Model_checkIndex_97 rfl (lv_at hl 2 rfl) ?_
          refine rd_Model_123 hx hb hT hown hK hP d_Model_checkIndex_98 ?_
          refine lv_aload_n hx hb d_Model_checkIndex_101 rfl (lv_at hl 2 rfl) ?_
          refine rd_Model_129 hx hb hT hown hK hP d_Model_checkIndex_102 ?_
          refine lv_iload_n hx hb d_Model_checkIndex_105 rfl (lv_at hl 3 rfl) ?_
          replace hR := gd_e hR
          obtain ⟨b14, hR⟩ := hR
          refine laM_38 hx hb hK hP b14 d_Model_checkIndex_106 ?_
          replace hR := gd_e hR
          obtain ⟨b15, hR⟩ := hR
          refine laM_36 hx hb hK hP b15 d_Model_checkIndex_107 ?_
          replace hR := bi_e hR
          obtain ⟨r16, l16, T16, hc16, hR⟩ := hR
          refine gcV_v (rest := []) ⟨hx, hb, hml, hown, hT⟩ (h_Model_fail _ _ _ _ _ _ hc16) (cwV 2 hT (gV ml_Model_381 im_Model_fail se_Model_fail ini_Model co_Model_fail) rfl rfl rfl pd_Model_fail ⟨rm_hi, rm_lo (Nat.le_of_ble_eq_true rfl)⟩) hK hP hD hS hA hnw henv (Nat.le_of_ble_eq_true rfl) rfl rfl hl.1 rfl (Nat.le_of_ble_eq_true rfl) d_Model_checkIndex_108 ⟨Nat.le_refl _, Nat.le_refl _⟩ (fun H locs hP hD hS => ?_)
          clear hc16
          have g := lb_111 T16 z3 hR
          rw [hG] at g
          exact g _ _ hP hD hS _ (lv_sub hl [2, 1] rfl)
      · replace hR := if_p c12 hR
        refine lv_aload_n hx hb d_Model_checkIndex_72 rfl (lv_at hl 2 rfl) ?_
        refine lv_iconst (v := 5) hx hb d_Model_checkIndex_73 (by decide) ?_
        refine lv_aload_n hx hb d_Model_checkIndex_74 rfl (lv_at hl 2 rfl) ?_
        refine rd_Model_123 hx hb hT hown hK hP d_Model_checkIndex_75 ?_
        refine lv_aload_n hx hb d_Model_checkIndex_78 rfl (lv_at hl 2 rfl) ?_
        refine rd_Model_126 hx hb hT hown hK hP d_Model_checkIndex_79 ?_
        refine lv_iload_n hx hb d_Model_checkIndex_82 rfl (lv_at hl 3 rfl) ?_
        replace hR := gd_e hR
        obtain ⟨b17, hR⟩ := hR
        refine laM_37 hx hb hK hP b17 d_Model_checkIndex_83 ?_
        replace hR := gd_e hR
        obtain ⟨b18, hR⟩ := hR
        refine laM_36 hx hb hK hP b18 d_Model_checkIndex_84 ?_
        replace hR := bi_e hR
        obtain ⟨r19, l19, T19, hc19, hR⟩ := hR
        refine gcV_v (rest := []) ⟨hx, hb, hml, hown, hT⟩ (h_Model_fail _ _ _ _ _ _ hc19) (cwV 2 hT (gV ml_Model_381 im_Model_fail se_Model_fail ini_Model co_Model_fail) rfl rfl rfl pd_Model_fail ⟨rm_hi, rm_lo (Nat.le_of_ble_eq_true rfl)⟩) hK hP hD hS hA hnw henv (Nat.le_of_ble_eq_true rfl) rfl rfl hl.1 rfl (Nat.le_of_ble_eq_true rfl) d_Model_checkIndex_85 ⟨Nat.le_refl _, Nat.le_refl _⟩ (fun H locs hP hD hS => ?_)
        clear hc19
        refine lv_goto (tgt := 111) hx hb d_Model_checkIndex_88 (by decide) ?_
        have g := lb_111 T19 z3 hR
        rw [hG] at g
        exact g _ _ hP hD hS _ (lv_sub hl [2, 1] rfl)
    · replace hR := if_p c9 hR
      refine lv_aload_n hx hb d_Model_checkIndex_40 rfl (lv_at hl 2 rfl) ?_
      refine lv_iconst (v := 4) hx hb d_Model_checkIndex_41 (by decide) ?_
      refine lv_aload_n hx hb d_Model_checkIndex_42 rfl (lv_at hl 2 rfl) ?_
      refine rd_Model_123 hx hb hT hown hK hP d_Model_checkIndex_43 ?_
      refine lv_aload_n hx hb d_Model_checkIndex_46 rfl (lv_at hl 2 rfl) ?_
      refine rd_Model_126 hx hb hT hown hK hP d_Model_checkIndex_47 ?_
      refine lv_iload_n hx hb d_Model_checkIndex_50 rfl (lv_at hl 3 rfl) ?_
      replace hR := gd_e hR
      obtain ⟨b20, hR⟩ := hR
      refine laM_37 hx hb hK hP b20 d_Model_checkIndex_51 ?_
      replace hR := gd_e hR
      obtain ⟨b21, hR⟩ := hR
      refine laM_36 hx hb hK hP b21 d_Model_checkIndex_52 ?_
      replace hR := bi_e hR
      obtain ⟨r22, l22, T22, hc22, hR⟩ := hR
      refine gcV_v (rest := []) ⟨hx, hb, hml, hown, hT⟩ (h_Model_fail _ _ _ _ _ _ hc22) (cwV 2 hT (gV ml_Model_381 im_Model_fail se_Model_fail ini_Model co_Model_fail) rfl rfl rfl pd_Model_fail ⟨rm_hi, rm_lo (Nat.le_of_ble_eq_true rfl)⟩) hK hP hD hS hA hnw henv (Nat.le_of_ble_eq_true rfl) rfl rfl hl.1 rfl (Nat.le_of_ble_eq_true rfl) d_Model_checkIndex_53 ⟨Nat.le_refl _, Nat.le_refl _⟩ (fun H locs hP hD hS => ?_)
      clear hc22
      refine lv_goto (tgt := 111) hx hb d_Model_checkIndex_56 (by decide) ?_
      have g := lb_111 T22 z3 hR
      rw [hG] at g
      exact g _ _ hP hD hS _ (lv_sub hl [2, 1] rfl)
  · replace hR := if_n c7 hR
    refine lv_iconst (v := 0) hx hb d_Model_checkIndex_30 (by decide) ?_
    obtain ⟨e1, -, e3⟩ := re_e hR
    subst e1; subst e3
    exact W.iret (v := (0 : Int32)) hx hb hr (fun t ht hW => ⟨⟨(0 : Int32), (), rfl, rfl, by rw [ht]; exact hP, va_K.moved hW.alike hK, hD⟩, hS.F ht⟩) hS.2.2 d_Model_checkIndex_31
