theorem fl_Model_63 : Cond.fieldLink R_Model 63 "PointerHouseModel" "deadName" "[J" ∈ lw_good := lg_right (i := 1839) (by decide +kernel) rfl
theorem d_Model_init_150 : decode b_Model_init 150 = .ok (.aload_n 0, 1) := by decide +kernel
theorem d_Model_init_151 : decode b_Model_init 151 = .ok (.bipush 72, 2) := by decide +kernel
theorem d_Model_init_153 : decode b_Model_init 153 = .ok (.newarray .int, 2) := by decide +kernel
theorem d_Model_init_155 : decode b_Model_init 155 = .ok (.putfield 66, 3) := by decide +kernel
theorem fl_Model_66 : Cond.fieldLink R_Model 66 "PointerHouseModel" "deadPlace" "[I" ∈ lw_good := lg_right (i := 1840) (by decide +kernel) rfl
theorem d_Model_init_158 : decode b_Model_init 158 = .ok (.aload_n 0, 1) := by decide +kernel
theorem d_Model_init_159 : decode b_Model_init 159 = .ok (.bipush 24, 2) := by decide +kernel
theorem d_Model_init_161 : decode b_Model_init 161 = .ok (.newarray .int, 2) := by decide +kernel
theorem d_Model_init_163 : decode b_Model_init 163 = .ok (.putfield 69, 3) := by decide +kernel
theorem fl_Model_69 : Cond.fieldLink R_Model 69 "PointerHouseModel" "deadMask" "[I" ∈ lw_good := lg_right (i := 1841) (by decide +kernel) rfl
theorem d_Model_init_166 : decode b_Model_init 166 = .ok (.aload_n 0, 1) := by decide +kernel
theorem d_Model_init_167 : decode b_Model_init 167 = .ok (.bipush 24, 2) := by decide +kernel
theorem d_Model_init_169 : decode b_Model_init 169 = .ok (.newarray .int, 2) := by decide +kernel
theorem d_Model_init_171 : decode b_Model_init 171 = .ok (.putfield 72, 3) := by decide +kernel
theorem fl_Model_72 : Cond.fieldLink R_Model 72 "PointerHouseModel" "wheres" "[I" ∈ lw_good := lg_right (i := 1842) (by decide +kernel) rfl
theorem d_Model_init_174 : decode b_Model_init 174 = .ok (.aload_n 0, 1) := by decide +kernel
theorem d_Model_init_175 : decode b_Model_init 175 = .ok (.sipush 144, 3) := by decide +kernel
theorem d_Model_init_178 : decode b_Model_init 178 = .ok (.newarray .long, 2) := by decide +kernel
theorem d_Model_init_180 : decode b_Model_init 180 = .ok (.putfield 75, 3) := by decide +kernel
theorem fl_Model_75 : Cond.fieldLink R_Model 75 "PointerHouseModel" "whereName" "[J" ∈ lw_good := lg_right (i := 1843) (by decide +kernel) rfl
theorem d_Model_init_183 : decode b_Model_init 183 = .ok (.aload_n 0, 1) := by decide +kernel
theorem d_Model_init_184 : decode b_Model_init 184 = .ok (.sipush 144, 3) := by decide +kernel
theorem d_Model_init_187 : decode b_Model_init 187 = .ok (.newarray .int, 2) := by decide +kernel
theorem d_Model_init_189 : decode b_Model_init 189 = .ok (.putfield 78, 3) := by decide +kernel
theorem fl_Model_78 : Cond.fieldLink R_Model 78 "PointerHouseModel" "wherePlace" "[I" ∈ lw_good := lg_right (i := 1844) (by decide +kernel) rfl
theorem d_Model_init_192 : decode b_Model_init 192 = .ok (.aload_n 0, 1) := by decide +kernel
theorem d_Model_init_193 : decode b_Model_init 193 = .ok (.bipush 24, 2) := by decide +kernel
theorem d_Model_init_195 : decode b_Model_init 195 = .ok (.newarray .int, 2) := by decide +kernel
theorem d_Model_init_197 : decode b_Model_init 197 = .ok (.putfield 81, 3) := by decide +kernel
theorem fl_Model_81 : Cond.fieldLink R_Model 81 "PointerHouseModel" "body" "[I" ∈ lw_good := lg_right (i := 1845) (by decide +kernel) rfl
theorem d_Model_init_200 : decode b_Model_init 200 = .ok (.aload_n 0, 1) := by decide +kernel
theorem d_Model_init_201 : decode b_Model_init 201 = .ok (.bipush 24, 2) := by decide +kernel
theorem d_Model_init_203 : decode b_Model_init 203 = .ok (.newarray .int, 2) := by decide +kernel
theorem d_Model_init_205 : decode b_Model_init 205 = .ok (.putfield 84, 3) := by decide +kernel
theorem fl_Model_84 : Cond.fieldLink R_Model 84 "PointerHouseModel" "varsOf" "[I" ∈ lw_good := lg_right (i := 1846) (by decide +kernel) rfl
theorem d_Model_init_208 : decode b_Model_init 208 = .ok (.aload_n 0, 1) := by decide +kernel
theorem d_Model_init_209 : decode b_Model_init 209 = .ok (.bipush 24, 2) := by decide +kernel
theorem d_Model_init_211 : decode b_Model_init 211 = .ok (.newarray .int, 2) := by decide +kernel
theorem d_Model_init_213 : decode b_Model_init 213 = .ok (.putfield 87, 3) := by decide +kernel
theorem d_Model_init_216 : decode b_Model_init 216 = .ok (.aload_n 0, 1) := by decide +kernel
theorem d_Model_init_217 : decode b_Model_init 217 = .ok (.sipush 4000, 3) := by decide +kernel
theorem d_Model_init_220 : decode b_Model_init 220 = .ok (.newarray .int, 2) := by decide +kernel
theorem d_Model_init_222 : decode b_Model_init 222 = .ok (.putfield 90, 3) := by decide +kernel
theorem fl_Model_90 : Cond.fieldLink R_Model 90 "PointerHouseModel" "writtenKind" "[I" ∈ lw_good := lg_right (i := 1849) (by decide +kernel) rfl
theorem d_Model_init_225 : decode b_Model_init 225 = .ok (.aload_n 0, 1) := by decide +kernel
theorem d_Model_init_226 : decode b_Model_init 226 = .ok (.sipush 4000, 3) := by decide +kernel
theorem d_Model_init_229 : decode b_Model_init 229 = .ok (.newarray .int, 2) := by decide +kernel
theorem d_Model_init_231 : decode b_Model_init 231 = .ok (.putfield 93, 3) := by decide +kernel
theorem fl_Model_93 : Cond.fieldLink R_Model 93 "PointerHouseModel" "writtenUse" "[I" ∈ lw_good := lg_right (i := 1850) (by decide +kernel) rfl
theorem d_Model_init_234 : decode b_Model_init 234 = .ok (.aload_n 0, 1) := by decide +kernel
theorem d_Model_init_235 : decode b_Model_init 235 = .ok (.sipush 4000, 3) := by decide +kernel
theorem d_Model_init_238 : decode b_Model_init 238 = .ok (.newarray .int, 2) := by decide +kernel
theorem d_Model_init_240 : decode b_Model_init 240 = .ok (.putfield 96, 3) := by decide +kernel
theorem fl_Model_96 : Cond.fieldLink R_Model 96 "PointerHouseModel" "writtenInner" "[I" ∈ lw_good := lg_right (i := 1851) (by decide +kernel) rfl
theorem d_Model_init_243 : decode b_Model_init 243 = .ok (.aload_n 0, 1) := by decide +kernel
theorem d_Model_init_244 : decode b_Model_init 244 = .ok (.sipush 4000, 3) := by decide +kernel
theorem d_Model_init_247 : decode b_Model_init 247 = .ok (.newarray .long, 2) := by decide +kernel
theorem d_Model_init_249 : decode b_Model_init 249 = .ok (.putfield 99, 3) := by decide +kernel
theorem fl_Model_99 : Cond.fieldLink R_Model 99 "PointerHouseModel" "writtenTitle" "[J" ∈ lw_good := lg_right (i := 1852) (by decide +kernel) rfl
theorem d_Model_init_252 : decode b_Model_init 252 = .ok (.aload_n 0, 1) := by decide +kernel
theorem d_Model_init_253 : decode b_Model_init 253 = .ok (.sipush 4000, 3) := by decide +kernel
theorem d_Model_init_256 : decode b_Model_init 256 = .ok (.newarray .int, 2) := by decide +kernel
theorem d_Model_init_258 : decode b_Model_init 258 = .ok (.putfield 102, 3) := by decide +kernel
theorem fl_Model_102 : Cond.fieldLink R_Model 102 "PointerHouseModel" "writtenTitlePlace" "[I" ∈ lw_good := lg_right (i := 1853) (by decide +kernel) rfl
theorem d_Model_init_261 : decode b_Model_init 261 = .ok (.aload_n 0, 1) := by decide +kernel
theorem d_Model_init_262 : decode b_Model_init 262 = .ok (.sipush 4000, 3) := by decide +kernel
theorem d_Model_init_265 : decode b_Model_init 265 = .ok (.newarray .int, 2) := by decide +kernel
theorem d_Model_init_267 : decode b_Model_init 267 = .ok (.putfield 105, 3) := by decide +kernel
theorem fl_Model_105 : Cond.fieldLink R_Model 105 "PointerHouseModel" "writtenFirst" "[I" ∈ lw_good := lg_right (i := 1854) (by decide +kernel) rfl
theorem d_Model_init_270 : decode b_Model_init 270 = .ok (.aload_n 0, 1) := by decide +kernel
theorem d_Model_init_271 : decode b_Model_init 271 = .ok (.sipush 4000, 3) := by decide +kernel
theorem d_Model_init_274 : decode b_Model_init 274 = .ok (.newarray .int, 2) := by decide +kernel
theorem d_Model_init_276 : decode b_Model_init 276 = .ok (.putfield 108, 3) := by decide +kernel
theorem fl_Model_108 : Cond.fieldLink R_Model 108 "PointerHouseModel" "writtenMany" "[I" ∈ lw_good := lg_right (i := 1855) (by decide +kernel) rfl
theorem d_Model_init_279 : decode b_Model_init 279 = .ok (.aload_n 0, 1) := by decide +kernel
theorem d_Model_init_280 : decode b_Model_init 280 = .ok (.sipush 4000, 3) := by decide +kernel
theorem d_Model_init_283 : decode b_Model_init 283 = .ok (.newarray .long, 2) := by decide +kernel
theorem d_Model_init_285 : decode b_Model_init 285 = .ok (.putfield 111, 3) := by decide +kernel
theorem fl_Model_111 : Cond.fieldLink R_Model 111 "PointerHouseModel" "useName" "[J" ∈ lw_good := lg_right (i := 1857) (by decide +kernel) rfl
theorem d_Model_init_288 : decode b_Model_init 288 = .ok (.aload_n 0, 1) := by decide +kernel
theorem d_Model_init_289 : decode b_Model_init 289 = .ok (.sipush 4000, 3) := by decide +kernel
theorem d_Model_init_292 : decode b_Model_init 292 = .ok (.newarray .int, 2) := by decide +kernel
theorem d_Model_init_294 : decode b_Model_init 294 = .ok (.putfield 114, 3) := by decide +kernel
theorem fl_Model_114 : Cond.fieldLink R_Model 114 "PointerHouseModel" "usePlace" "[I" ∈ lw_good := lg_right (i := 1858) (by decide +kernel) rfl
theorem d_Model_init_297 : decode b_Model_init 297 = .ok (.aload_n 0, 1) := by decide +kernel
theorem d_Model_init_298 : decode b_Model_init 298 = .ok (.sipush 4000, 3) := by decide +kernel
theorem d_Model_init_301 : decode b_Model_init 301 = .ok (.newarray .int, 2) := by decide +kernel
theorem d_Model_init_303 : decode b_Model_init 303 = .ok (.putfield 117, 3) := by decide +kernel
theorem fl_Model_117 : Cond.fieldLink R_Model 117 "PointerHouseModel" "useCode" "[I" ∈ lw_good := lg_right (i := 1859) (by decide +kernel) rfl
