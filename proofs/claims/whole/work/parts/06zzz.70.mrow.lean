abbrev b_Model_row : ByteArray := prog_14_method_13_code
abbrev y_Model_row : MethodName := ⟨R_Model, "row", "(IZ)V"⟩
theorem co_Model_row : Cond.code y_Model_row b_Model_row 8 none ∈ lw_good := lg_in (tin_10 _ (List.mem_of_getElem? (i := 166) rfl)) rfl
abbrev w_Model_row : List Cond := Cond.code y_Model_row b_Model_row 8 none :: lw_good
theorem im_Model_row : Cond.instanceMethod y_Model_row ∈ lw_good := lg_right (i := 2325) (by decide +kernel) rfl
theorem se_Model_row : Cond.selects R_Model y_Model_row y_Model_row ∈ lw_good := lg_left (i := 119) (by decide +kernel) rfl
theorem d_Model_row_0 : decode b_Model_row 0 = .ok (.iload_n 1, 1) := by decide +kernel
theorem d_Model_row_1 : decode b_Model_row 1 = .ok (.istore_n 3, 1) := by decide +kernel
theorem d_Model_row_2 : decode b_Model_row 2 = .ok (.iconst 1, 1) := by decide +kernel
theorem d_Model_row_3 : decode b_Model_row 3 = .ok (.istore 4, 2) := by decide +kernel
theorem d_Model_row_5 : decode b_Model_row 5 = .ok (.iconst 1, 1) := by decide +kernel
theorem d_Model_row_6 : decode b_Model_row 6 = .ok (.istore 5, 2) := by decide +kernel
theorem d_Model_row_8 : decode b_Model_row 8 = .ok (.aload_n 0, 1) := by decide +kernel
theorem d_Model_row_9 : decode b_Model_row 9 = .ok (.lconst 0, 1) := by decide +kernel
theorem d_Model_row_10 : decode b_Model_row 10 = .ok (.putfield 365, 3) := by decide +kernel
theorem d_Model_row_13 : decode b_Model_row 13 = .ok (.aload_n 0, 1) := by decide +kernel
theorem d_Model_row_14 : decode b_Model_row 14 = .ok (.iconst 0, 1) := by decide +kernel
theorem d_Model_row_15 : decode b_Model_row 15 = .ok (.putfield 369, 3) := by decide +kernel
theorem d_Model_row_18 : decode b_Model_row 18 = .ok (.iload_n 3, 1) := by decide +kernel
theorem d_Model_row_19 : decode b_Model_row 19 = .ok (.aload_n 0, 1) := by decide +kernel
theorem d_Model_row_20 : decode b_Model_row 20 = .ok (.getfield 313, 3) := by decide +kernel
theorem d_Model_row_23 : decode b_Model_row 23 = .ok (.if_icmp .ge 109, 3) := by decide +kernel
theorem d_Model_row_26 : decode b_Model_row 26 = .ok (.aload_n 0, 1) := by decide +kernel
theorem d_Model_row_27 : decode b_Model_row 27 = .ok (.getfield 7, 3) := by decide +kernel
theorem d_Model_row_30 : decode b_Model_row 30 = .ok (.iload_n 3, 1) := by decide +kernel
theorem d_Model_row_31 : decode b_Model_row 31 = .ok (.iaload, 1) := by decide +kernel
theorem d_Model_row_32 : decode b_Model_row 32 = .ok (.invokestatic 355, 3) := by decide +kernel
theorem d_Model_row_35 : decode b_Model_row 35 = .ok (.ifCond .eq 97, 3) := by decide +kernel
theorem d_Model_row_38 : decode b_Model_row 38 = .ok (.iload 4, 2) := by decide +kernel
theorem d_Model_row_40 : decode b_Model_row 40 = .ok (.ifCond .eq 19, 3) := by decide +kernel
theorem d_Model_row_43 : decode b_Model_row 43 = .ok (.aload_n 0, 1) := by decide +kernel
theorem d_Model_row_44 : decode b_Model_row 44 = .ok (.getfield 7, 3) := by decide +kernel
theorem d_Model_row_47 : decode b_Model_row 47 = .ok (.iload_n 3, 1) := by decide +kernel
theorem d_Model_row_48 : decode b_Model_row 48 = .ok (.iaload, 1) := by decide +kernel
theorem d_Model_row_49 : decode b_Model_row 49 = .ok (.invokestatic 327, 3) := by decide +kernel
theorem d_Model_row_52 : decode b_Model_row 52 = .ok (.ifCond .eq 7, 3) := by decide +kernel
theorem d_Model_row_55 : decode b_Model_row 55 = .ok (.iconst 1, 1) := by decide +kernel
theorem d_Model_row_56 : decode b_Model_row 56 = .ok (.goto 4, 3) := by decide +kernel
theorem d_Model_row_59 : decode b_Model_row 59 = .ok (.iconst 0, 1) := by decide +kernel
theorem d_Model_row_60 : decode b_Model_row 60 = .ok (.istore 4, 2) := by decide +kernel
theorem d_Model_row_62 : decode b_Model_row 62 = .ok (.iload 5, 2) := by decide +kernel
theorem d_Model_row_64 : decode b_Model_row 64 = .ok (.ifCond .eq 19, 3) := by decide +kernel
theorem d_Model_row_67 : decode b_Model_row 67 = .ok (.aload_n 0, 1) := by decide +kernel
theorem d_Model_row_68 : decode b_Model_row 68 = .ok (.getfield 7, 3) := by decide +kernel
theorem d_Model_row_71 : decode b_Model_row 71 = .ok (.iload_n 3, 1) := by decide +kernel
theorem d_Model_row_72 : decode b_Model_row 72 = .ok (.iaload, 1) := by decide +kernel
theorem d_Model_row_73 : decode b_Model_row 73 = .ok (.invokestatic 324, 3) := by decide +kernel
theorem d_Model_row_76 : decode b_Model_row 76 = .ok (.ifCond .ne 7, 3) := by decide +kernel
theorem d_Model_row_79 : decode b_Model_row 79 = .ok (.iconst 1, 1) := by decide +kernel
theorem d_Model_row_80 : decode b_Model_row 80 = .ok (.goto 4, 3) := by decide +kernel
theorem d_Model_row_83 : decode b_Model_row 83 = .ok (.iconst 0, 1) := by decide +kernel
theorem d_Model_row_84 : decode b_Model_row 84 = .ok (.istore 5, 2) := by decide +kernel
theorem d_Model_row_86 : decode b_Model_row 86 = .ok (.aload_n 0, 1) := by decide +kernel
theorem d_Model_row_87 : decode b_Model_row 87 = .ok (.aload_n 0, 1) := by decide +kernel
theorem d_Model_row_88 : decode b_Model_row 88 = .ok (.getfield 365, 3) := by decide +kernel
theorem d_Model_row_91 : decode b_Model_row 91 = .ok (.bipush 8, 2) := by decide +kernel
theorem d_Model_row_93 : decode b_Model_row 93 = .ok (.lshl, 1) := by decide +kernel
theorem d_Model_row_94 : decode b_Model_row 94 = .ok (.aload_n 0, 1) := by decide +kernel
theorem d_Model_row_95 : decode b_Model_row 95 = .ok (.getfield 7, 3) := by decide +kernel
theorem d_Model_row_98 : decode b_Model_row 98 = .ok (.iload_n 3, 1) := by decide +kernel
theorem d_Model_row_99 : decode b_Model_row 99 = .ok (.iaload, 1) := by decide +kernel
theorem d_Model_row_100 : decode b_Model_row 100 = .ok (.i2l, 1) := by decide +kernel
theorem d_Model_row_101 : decode b_Model_row 101 = .ok (.lor, 1) := by decide +kernel
theorem d_Model_row_102 : decode b_Model_row 102 = .ok (.putfield 365, 3) := by decide +kernel
theorem d_Model_row_105 : decode b_Model_row 105 = .ok (.aload_n 0, 1) := by decide +kernel
theorem d_Model_row_106 : decode b_Model_row 106 = .ok (.bipush 10, 2) := by decide +kernel
theorem d_Model_row_108 : decode b_Model_row 108 = .ok (.aload_n 0, 1) := by decide +kernel
theorem d_Model_row_109 : decode b_Model_row 109 = .ok (.getfield 369, 3) := by decide +kernel
theorem d_Model_row_112 : decode b_Model_row 112 = .ok (.imul, 1) := by decide +kernel
theorem d_Model_row_113 : decode b_Model_row 113 = .ok (.aload_n 0, 1) := by decide +kernel
theorem d_Model_row_114 : decode b_Model_row 114 = .ok (.getfield 7, 3) := by decide +kernel
theorem d_Model_row_117 : decode b_Model_row 117 = .ok (.iload_n 3, 1) := by decide +kernel
theorem d_Model_row_118 : decode b_Model_row 118 = .ok (.iaload, 1) := by decide +kernel
theorem d_Model_row_119 : decode b_Model_row 119 = .ok (.iadd, 1) := by decide +kernel
theorem d_Model_row_120 : decode b_Model_row 120 = .ok (.bipush 48, 2) := by decide +kernel
theorem d_Model_row_122 : decode b_Model_row 122 = .ok (.isub, 1) := by decide +kernel
theorem d_Model_row_123 : decode b_Model_row 123 = .ok (.putfield 369, 3) := by decide +kernel
theorem d_Model_row_126 : decode b_Model_row 126 = .ok (.iinc 3 1, 3) := by decide +kernel
theorem d_Model_row_129 : decode b_Model_row 129 = .ok (.goto (-111), 3) := by decide +kernel
theorem d_Model_row_132 : decode b_Model_row 132 = .ok (.aload_n 0, 1) := by decide +kernel
theorem d_Model_row_133 : decode b_Model_row 133 = .ok (.iload_n 3, 1) := by decide +kernel
theorem d_Model_row_134 : decode b_Model_row 134 = .ok (.putfield 342, 3) := by decide +kernel
theorem d_Model_row_137 : decode b_Model_row 137 = .ok (.iload_n 3, 1) := by decide +kernel
theorem d_Model_row_138 : decode b_Model_row 138 = .ok (.iload_n 1, 1) := by decide +kernel
theorem d_Model_row_139 : decode b_Model_row 139 = .ok (.isub, 1) := by decide +kernel
theorem d_Model_row_140 : decode b_Model_row 140 = .ok (.istore 6, 2) := by decide +kernel
theorem d_Model_row_142 : decode b_Model_row 142 = .ok (.aload_n 0, 1) := by decide +kernel
theorem d_Model_row_143 : decode b_Model_row 143 = .ok (.iload_n 1, 1) := by decide +kernel
theorem d_Model_row_144 : decode b_Model_row 144 = .ok (.invokevirtual 345, 3) := by decide +kernel
theorem d_Model_row_147 : decode b_Model_row 147 = .ok (.istore 7, 2) := by decide +kernel
theorem d_Model_row_149 : decode b_Model_row 149 = .ok (.iload_n 2, 1) := by decide +kernel
theorem d_Model_row_150 : decode b_Model_row 150 = .ok (.ifCond .eq 53, 3) := by decide +kernel
theorem d_Model_row_153 : decode b_Model_row 153 = .ok (.aload_n 0, 1) := by decide +kernel
theorem d_Model_row_154 : decode b_Model_row 154 = .ok (.iload 6, 2) := by decide +kernel
theorem d_Model_row_156 : decode b_Model_row 156 = .ok (.iconst 1, 1) := by decide +kernel
theorem d_Model_row_157 : decode b_Model_row 157 = .ok (.if_icmp .ne 10, 3) := by decide +kernel
theorem d_Model_row_160 : decode b_Model_row 160 = .ok (.iload 7, 2) := by decide +kernel
theorem d_Model_row_162 : decode b_Model_row 162 = .ok (.bipush 72, 2) := by decide +kernel
theorem d_Model_row_164 : decode b_Model_row 164 = .ok (.if_icmp .eq 28, 3) := by decide +kernel
theorem d_Model_row_167 : decode b_Model_row 167 = .ok (.iload 6, 2) := by decide +kernel
theorem d_Model_row_169 : decode b_Model_row 169 = .ok (.ifCond .le 27, 3) := by decide +kernel
theorem d_Model_row_172 : decode b_Model_row 172 = .ok (.iload 6, 2) := by decide +kernel
theorem d_Model_row_174 : decode b_Model_row 174 = .ok (.bipush 9, 2) := by decide +kernel
theorem d_Model_row_176 : decode b_Model_row 176 = .ok (.if_icmp .ge 20, 3) := by decide +kernel
theorem d_Model_row_179 : decode b_Model_row 179 = .ok (.iload 5, 2) := by decide +kernel
theorem d_Model_row_181 : decode b_Model_row 181 = .ok (.ifCond .eq 15, 3) := by decide +kernel
theorem d_Model_row_184 : decode b_Model_row 184 = .ok (.iload 7, 2) := by decide +kernel
theorem d_Model_row_186 : decode b_Model_row 186 = .ok (.invokestatic 320, 3) := by decide +kernel
theorem d_Model_row_189 : decode b_Model_row 189 = .ok (.ifCond .eq 7, 3) := by decide +kernel
theorem d_Model_row_192 : decode b_Model_row 192 = .ok (.iconst 4, 1) := by decide +kernel
theorem d_Model_row_193 : decode b_Model_row 193 = .ok (.goto 4, 3) := by decide +kernel
theorem d_Model_row_196 : decode b_Model_row 196 = .ok (.iconst 0, 1) := by decide +kernel
theorem d_Model_row_197 : decode b_Model_row 197 = .ok (.putfield 352, 3) := by decide +kernel
theorem d_Model_row_200 : decode b_Model_row 200 = .ok (.goto 94, 3) := by decide +kernel
theorem d_Model_row_203 : decode b_Model_row 203 = .ok (.iload 4, 2) := by decide +kernel
theorem d_Model_row_205 : decode b_Model_row 205 = .ok (.ifCond .eq 22, 3) := by decide +kernel
theorem d_Model_row_208 : decode b_Model_row 208 = .ok (.aload_n 0, 1) := by decide +kernel
theorem d_Model_row_209 : decode b_Model_row 209 = .ok (.iload 6, 2) := by decide +kernel
theorem d_Model_row_211 : decode b_Model_row 211 = .ok (.bipush 10, 2) := by decide +kernel
theorem d_Model_row_213 : decode b_Model_row 213 = .ok (.if_icmp .ge 7, 3) := by decide +kernel
theorem d_Model_row_216 : decode b_Model_row 216 = .ok (.iconst 5, 1) := by decide +kernel
theorem d_Model_row_217 : decode b_Model_row 217 = .ok (.goto 4, 3) := by decide +kernel
theorem d_Model_row_220 : decode b_Model_row 220 = .ok (.iconst 0, 1) := by decide +kernel
theorem d_Model_row_221 : decode b_Model_row 221 = .ok (.putfield 352, 3) := by decide +kernel
theorem d_Model_row_224 : decode b_Model_row 224 = .ok (.goto 70, 3) := by decide +kernel
theorem d_Model_row_227 : decode b_Model_row 227 = .ok (.iload 6, 2) := by decide +kernel
theorem d_Model_row_229 : decode b_Model_row 229 = .ok (.bipush 8, 2) := by decide +kernel
theorem d_Model_row_231 : decode b_Model_row 231 = .ok (.if_icmp .gt 11, 3) := by decide +kernel
theorem d_Model_row_234 : decode b_Model_row 234 = .ok (.iload 7, 2) := by decide +kernel
theorem d_Model_row_236 : decode b_Model_row 236 = .ok (.invokestatic 327, 3) := by decide +kernel
theorem d_Model_row_239 : decode b_Model_row 239 = .ok (.ifCond .eq 11, 3) := by decide +kernel
theorem d_Model_row_242 : decode b_Model_row 242 = .ok (.aload_n 0, 1) := by decide +kernel
theorem d_Model_row_243 : decode b_Model_row 243 = .ok (.iconst 0, 1) := by decide +kernel
theorem d_Model_row_244 : decode b_Model_row 244 = .ok (.putfield 352, 3) := by decide +kernel
theorem d_Model_row_247 : decode b_Model_row 247 = .ok (.goto 47, 3) := by decide +kernel
theorem d_Model_row_250 : decode b_Model_row 250 = .ok (.iload 7, 2) := by decide +kernel
theorem d_Model_row_252 : decode b_Model_row 252 = .ok (.invokestatic 324, 3) := by decide +kernel
theorem d_Model_row_255 : decode b_Model_row 255 = .ok (.ifCond .eq 11, 3) := by decide +kernel
theorem d_Model_row_258 : decode b_Model_row 258 = .ok (.aload_n 0, 1) := by decide +kernel
theorem d_Model_row_259 : decode b_Model_row 259 = .ok (.iconst 3, 1) := by decide +kernel
theorem d_Model_row_260 : decode b_Model_row 260 = .ok (.putfield 352, 3) := by decide +kernel
theorem d_Model_row_263 : decode b_Model_row 263 = .ok (.goto 31, 3) := by decide +kernel
theorem d_Model_row_266 : decode b_Model_row 266 = .ok (.aload_n 0, 1) := by decide +kernel
theorem d_Model_row_267 : decode b_Model_row 267 = .ok (.iload 5, 2) := by decide +kernel
theorem d_Model_row_269 : decode b_Model_row 269 = .ok (.ifCond .ne 7, 3) := by decide +kernel
theorem d_Model_row_272 : decode b_Model_row 272 = .ok (.iconst 0, 1) := by decide +kernel
theorem d_Model_row_273 : decode b_Model_row 273 = .ok (.goto 18, 3) := by decide +kernel
theorem d_Model_row_276 : decode b_Model_row 276 = .ok (.aload_n 0, 1) := by decide +kernel
theorem d_Model_row_277 : decode b_Model_row 277 = .ok (.getfield 365, 3) := by decide +kernel
theorem d_Model_row_280 : decode b_Model_row 280 = .ok (.invokestatic 372, 3) := by decide +kernel
theorem ml_Model_372 : Cond.methodLink R_Model 372 ⟨"PointerHouseModel", "isKept", "(J)Z"⟩ ∈ lw_good := lg_right (i := 2327) (by decide +kernel) rfl
theorem d_Model_row_283 : decode b_Model_row 283 = .ok (.ifCond .eq 7, 3) := by decide +kernel
theorem d_Model_row_286 : decode b_Model_row 286 = .ok (.iconst 2, 1) := by decide +kernel
theorem d_Model_row_287 : decode b_Model_row 287 = .ok (.goto 4, 3) := by decide +kernel
theorem d_Model_row_290 : decode b_Model_row 290 = .ok (.iconst 1, 1) := by decide +kernel
theorem d_Model_row_291 : decode b_Model_row 291 = .ok (.putfield 352, 3) := by decide +kernel
theorem d_Model_row_294 : decode b_Model_row 294 = .ok (.return_, 1) := by decide +kernel
theorem nz {r : Int32} {P : Prop} [Decidable P] (hr : r = if P then 1 else 0) (c : r = 0) : ¬ P := fun q => by
  rw [hr, if_pos q] at c
  exact absurd c (by decide)
theorem yz {r : Int32} {P : Prop} [Decidable P] (hr : r = if P then 1 else 0) (c : ¬ r = 0) : P := Decidable.byContradiction (fun q => c (hr.trans (if_neg q)))
set_option maxHeartbeats 4000000 in
set_option maxRecDepth 100000 in
theorem c_Model_row (l : Launch) (dC : Nat → ClassId) (dI : Nat → Nat → Nat) (sz : Nat) (ad : Nat → Nat) (av : Nat → Nat) (h_this : Nat) (h_text : Nat) (fs_this : List Value) (k_text : ClassId) (f_text : Nat → Int32) (p2 : Int32) (a : Nat) (tz : Nat) (len_this : fs_this.length = 153) (g_this_size : fs_this[1]? = some (.int (nI tz))) (g_this_text : fs_this[0]? = some (.ref h_text)) (ha : a ≤ tz) (hz : tz ≤ 4000) : Met l y_Model_row w_Model_row ({ frames := 5, cells := 0, slots := 0, locals := 109 } : Room) (va_Pc [.ref h_this, .int (nI a), .int p2] (fun U => U.heap.size = sz ∧ va_P (dC, dI) cls_all [oc h_this 12 fs_this, ic h_text k_text 4000 f_text] U.heap ∧ va_K (dC, dI) cls_all [(k_text, .int)] U ∧ va_D (fun _ => True) [oc h_this 12 fs_this, ic h_text k_text 4000 f_text] ∧ env0 ad av (va_A [oc h_this 12 fs_this, ic h_text k_text 4000 f_text] sz) U U.heap)) (va_Qv (fun (_ : Unit) => True) (fun _ t => ∃ (fs_this' : List Value), (fs_this'.length = 153 ∧ (∀ j : Nat, j ≠ 6 → j ≠ 5 → j ≠ 4 → j ≠ 2 → fs_this'[j]? = fs_this[j]?) ∧ fs_this'[6]? = some (.long (pkd f_text a (rl f_text a (tz - a)))) ∧ fs_this'[5]? = some (.int (nmb f_text a (rl f_text a (tz - a)))) ∧ fs_this'[4]? = some (.int (nI (a + (rl f_text a (tz - a))))) ∧ fs_this'[2]? = some (.int (srt p2 (nI (rl f_text a (tz - a))) (if nI a < nI tz then f_text a else -1) (dgs f_text a (rl f_text a (tz - a))) (sml f_text a (rl f_text a (tz - a))) (if ff (khit (pkd f_text a (rl f_text a (tz - a)))) 0 133 = -1 then 0 else 1)))) ∧ va_P (dC, dI) cls_all [oc h_this 12 fs_this', ic h_text k_text 4000 f_text] t.heap ∧ va_K (dC, dI) cls_all [(k_text, .int)] t ∧ va_D (va_A [oc h_this 12 fs_this, ic h_text k_text 4000 f_text] sz) [oc h_this 12 fs_this', ic h_text k_text 4000 f_text]) (va_A [oc h_this 12 fs_this, ic h_text k_text 4000 f_text] sz)) 0 0 (va_A [oc h_this 12 fs_this, ic h_text k_text 4000 f_text] sz) := by
  refine Met.ofW (cc := b_Model_row) (maxL := 8) (ret := none) (by decide) rfl ?_
  intro p e s m args below meth c s₁ B hml hv
  obtain ⟨rfl, hsz, hP, hK, hD0, henv⟩ := hv
  have hx := B.exec
  have hb := B.bytes
  have hr := B.returns
  have hT : ∀ w ∈ lw_good, w.before _ s = true := fun w h => atoms_spec (ws := w_Model_row) B.pre w (List.mem_cons_of_mem _ h)
  have hown : s.vm.findClass R_Model = some m.cls := findClass_of_methodNamed B.named
  have hlocks := B.notSynchronized
  subst hsz
  have hD := hD0.self (sz := s.heap.size)
  generalize hAe : va_A [oc h_this 12 fs_this, ic h_text k_text 4000 f_text] s.heap.size = A at hD henv ⊢
  have hA : ∀ q : Nat, s.heap.size ≤ q → A q := fun q h => by rw [← hAe]; exact Or.inr h
  have hS : va_S A s.heap s.heap [] := va_S.rf
  have hP : va_P (dC, dI) cls_all [oc h_this 12 fs_this, ic h_text k_text 4000 f_text] s.heap := hP
  have hl := lv_entry ([.ref h_this, .int (nI a), .int p2]) (n := 8) (Nat.le_of_ble_eq_true rfl)
  rw [lg_entry_eq]
  generalize (lg_sl ([.ref h_this, .int (nI a), .int p2]) ++ List.replicate (8 - (lg_sl ([.ref h_this, .int (nI a), .int p2])).length) Slot.unset).toArray = ls at hl ⊢
  have hl : lv_has ls 8 [(0, .ref h_this), (1, .int (nI a)), (2, .int p2)] := hl
  refine lv_iload_n hx hb d_Model_row_0 rfl (lv_at hl 1 rfl) ?_
  refine lv_istore_n (lv' := [(3, .int (nI a)), (0, .ref h_this), (1, .int (nI a)), (2, .int p2)]) hx hb d_Model_row_1 rfl hl (by decide) rfl (fun ls hl => ?_)
  refine lv_iconst (v := 1) hx hb d_Model_row_2 (by decide) ?_
  refine lv_istore (lv' := [(4, .int 1), (3, .int (nI a)), (0, .ref h_this), (1, .int (nI a)), (2, .int p2)]) hx hb d_Model_row_3 hl (by decide) rfl (fun ls hl => ?_)
  refine lv_iconst (v := 1) hx hb d_Model_row_5 (by decide) ?_
  refine lv_istore (lv' := [(5, .int 1), (4, .int 1), (3, .int (nI a)), (0, .ref h_this), (1, .int (nI a)), (2, .int p2)]) hx hb d_Model_row_6 hl (by decide) rfl (fun ls hl => ?_)
  refine lv_aload_n hx hb d_Model_row_8 rfl (lv_at hl 3 rfl) ?_
  refine lv_lconst (v := 0) hx hb d_Model_row_9 (by decide) ?_
  refine va_put (D := (dC, dI)) (ci := 12) (v := .long 0) (ty := .long) (C := R_Model) (T := F_Model) (N := 153) hx hb hT i_Model t_Model t_Model_ok n_Model hown hK hP hD hS 0 rfl rfl 6 (by decide) (hT _ fl_Model_365) (fun _ h9 => h9) rfl (by decide +kernel) rfl rfl (by simp only [List.length_set, len_this]; decide) d_Model_row_10 (fun H locs hP hD hS => ?_)
  have hP : va_P (dC, dI) cls_all [oc h_this 12 (fs_this.set 6 (.long 0)), ic h_text k_text 4000 f_text] H := hP
  have hD : va_D A [oc h_this 12 (fs_this.set 6 (.long 0)), ic h_text k_text 4000 f_text] := hD
  refine lv_aload_n hx hb d_Model_row_13 rfl (lv_at hl 3 rfl) ?_
  refine lv_iconst (v := 0) hx hb d_Model_row_14 (by decide) ?_
  refine va_put (D := (dC, dI)) (ci := 12) (v := .int 0) (ty := .int) (C := R_Model) (T := F_Model) (N := 153) hx hb hT i_Model t_Model t_Model_ok n_Model hown hK hP hD hS 0 rfl rfl 5 (by decide) (hT _ fl_Model_369) (fun _ h9 => h9) rfl (by decide +kernel) rfl rfl (by simp only [List.length_set, len_this]; decide) d_Model_row_15 (fun H locs hP hD hS => ?_)
  have hP : va_P (dC, dI) cls_all [oc h_this 12 ((fs_this.set 6 (.long 0)).set 5 (.int 0)), ic h_text k_text 4000 f_text] H := hP
  have hD : va_D A [oc h_this 12 ((fs_this.set 6 (.long 0)).set 5 (.int 0)), ic h_text k_text 4000 f_text] := hD
  have loop : ∀ (nn : Nat) (k : Nat), a + k ≤ tz → (rl f_text a (tz - a)) = k + rl f_text (a + k) (tz - a - k) → tz - a - k < nn → ∀ (fsL0 : List Value), fsL0.length = 153 → (∀ j : Nat, j ≠ 6 → j ≠ 5 → fsL0[j]? = fs_this[j]?) → fsL0[6]? = some (.long (pkd f_text a k)) → fsL0[5]? = some (.int (nmb f_text a k)) → ∀ (H : Heap) (locs : List Loc), va_P (dC, dI) cls_all [oc h_this 12 fsL0, ic h_text k_text 4000 f_text] H → va_D A [oc h_this 12 fsL0, ic h_text k_text 4000 f_text] → va_S A s.heap H locs → ∀ (ls : Array Slot), lv_has ls 8 [(5, .int (sml f_text a k)), (4, .int (dgs f_text a k)), (3, .int (nI (a + k))), (0, .ref h_this), (1, .int (nI a)), (2, .int p2)] → W p l e (headSpec w_Model_row ({ frames := 5, cells := 0, slots := 0, locals := 109 } : Room)).room s m ([.ref h_this, .int (nI a), .int p2] : List Value).toArray below meth c H locs 0 0 (MQ below (va_Qv (fun (_ : Unit) => True) (fun _ t => ∃ (fs_this' : List Value), (fs_this'.length = 153 ∧ (∀ j : Nat, j ≠ 6 → j ≠ 5 → j ≠ 4 → j ≠ 2 → fs_this'[j]? = fs_this[j]?) ∧ fs_this'[6]? = some (.long (pkd f_text a (rl f_text a (tz - a)))) ∧ fs_this'[5]? = some (.int (nmb f_text a (rl f_text a (tz - a)))) ∧ fs_this'[4]? = some (.int (nI (a + (rl f_text a (tz - a))))) ∧ fs_this'[2]? = some (.int (srt p2 (nI (rl f_text a (tz - a))) (if nI a < nI tz then f_text a else -1) (dgs f_text a (rl f_text a (tz - a))) (sml f_text a (rl f_text a (tz - a))) (if ff (khit (pkd f_text a (rl f_text a (tz - a)))) 0 133 = -1 then 0 else 1)))) ∧ va_P (dC, dI) cls_all [oc h_this 12 fs_this', ic h_text k_text 4000 f_text] t.heap ∧ va_K (dC, dI) cls_all [(k_text, .int)] t ∧ va_D A [oc h_this 12 fs_this', ic h_text k_text 4000 f_text]) A) ([.ref h_this, .int (nI a), .int p2] : List Value).toArray s 0 0 A) (F0 m 18 ls []) := by
    clear hP hD hS
    clear hl
    intro nn
    induction nn with
    | zero => intro k hk he hn fsL0 hLl hLf hL6 hL5 H locs hP hD hS ls hl; exfalso; omega
    | succ nn ih =>
      intro k hk he hn fsL0 hLl hLf hL6 hL5 H locs hP hD hS ls hl
      refine lv_iload_n hx hb d_Model_row_18 rfl (lv_at hl 2 rfl) ?_
      refine lv_aload_n hx hb d_Model_row_19 rfl (lv_at hl 3 rfl) ?_
      refine va_get (D := (dC, dI)) (ci := 12) (v := .int (nI tz)) (C := R_Model) (T := F_Model) (N := 153) hx hb hT i_Model hown hK hP 0 rfl rfl 1 (by decide) (hT _ fl_Model_313) (fun _ h9 => h9) ((hLf 1 (by decide) (by decide)).trans g_this_size) d_Model_row_20 ?_
      refine lv_icmp_ge (tgt := 132) hx hb d_Model_row_23 (by decide) (fun c1 => ?_) (fun c1 => ?_)
      · have b1 : (tz) ≤ ((a + k)) := (ni_le (by omega) (by omega)).1 c1
        have hN : (rl f_text a (tz - a)) = k := he.trans (by rw [show tz - a - k = 0 by omega]; rfl)
        refine lv_aload_n hx hb d_Model_row_132 rfl (lv_at hl 3 rfl) ?_
        refine lv_iload_n hx hb d_Model_row_133 rfl (lv_at hl 2 rfl) ?_
        refine va_put (D := (dC, dI)) (ci := 12) (v := .int (nI (a + k))) (ty := .int) (C := R_Model) (T := F_Model) (N := 153) hx hb hT i_Model t_Model t_Model_ok n_Model hown hK hP hD hS 0 rfl rfl 4 (by decide) (hT _ fl_Model_342) (fun _ h9 => h9) rfl (by decide +kernel) rfl rfl (by simp only [List.length_set, hLl]; decide) d_Model_row_134 (fun H locs hP hD hS => ?_)
        have hP : va_P (dC, dI) cls_all [oc h_this 12 (fsL0.set 4 (.int (nI (a + k)))), ic h_text k_text 4000 f_text] H := hP
        have hD : va_D A [oc h_this 12 (fsL0.set 4 (.int (nI (a + k)))), ic h_text k_text 4000 f_text] := hD
        refine lv_iload_n hx hb d_Model_row_137 rfl (lv_at hl 2 rfl) ?_
        refine lv_iload_n hx hb d_Model_row_138 rfl (lv_at hl 4 rfl) ?_
        refine lv_isub hx hb d_Model_row_139 ?_
        refine lv_topi (fun x2 e2 => ?_)
        obtain rfl : x2 = nI ((a + k) - a) := e2.trans (pk_sub (a := (a + k)) (b := a) (by omega))
        rw [Nat.add_sub_cancel_left]
        refine lv_istore (lv' := [(6, .int (nI (k))), (5, .int (sml f_text a k)), (4, .int (dgs f_text a k)), (3, .int (nI (a + k))), (0, .ref h_this), (1, .int (nI a)), (2, .int p2)]) hx hb d_Model_row_140 hl (by decide) rfl (fun ls hl => ?_)
        refine lv_aload_n hx hb d_Model_row_142 rfl (lv_at hl 4 rfl) ?_
        refine lv_iload_n hx hb d_Model_row_143 rfl (lv_at hl 5 rfl) ?_
        have hPc := hP.sub (ws' := [oc h_this 12 (fsL0.set 4 (.int (nI (a + k)))), ic h_text k_text 4000 f_text]) [0, 1] rfl
        have hKc := hK.sub (tys' := [(k_text, .int)]) [0] rfl
        refine vp_callSi (va_Run.run (va_runV (As := [.int (nI a)]) (rest := []) ⟨hx, hb, hml, hown, hT⟩ (c_Model_see l dC dI (h_this := h_this) (h_text := h_text) (fs_this := (fsL0.set 4 (.int (nI (a + k))))) (v_this_size := (nI tz)) (k_text := k_text) (f_text := f_text) (p1 := (nI a)) (len_this := (by first | exact hLl | (simp only [List.length_set]; exact hLl))) (g_this_size := ((ls_ne (by decide)).trans ((hLf 1 (by decide) (by decide)).trans g_this_size))) (g_this_text := ((ls_ne (by decide)).trans ((hLf 0 (by decide) (by decide)).trans g_this_text))) (h0 := (nI_pos' (by omega))) (hs := (nI_le (b := 4000) (by omega) (by decide)))) (cwV 1 hT (gV ml_Model_345 im_Model_see_I se_Model_see_I ini_Model co_Model_see_I) rfl rfl rfl (by decide +kernel) ⟨Nat.le_of_ble_eq_true rfl, Nat.le_of_ble_eq_true rfl⟩) ⟨fbS, va_recv hKc hPc (ci := 12) (q0 := 0) rfl rfl, fun U hU hW => ⟨rfl, by rw [hU]; exact hPc, va_K.moved hW.alike hKc⟩⟩ rfl rfl hl.1 rfl (lv_room (Nat.le_of_ble_eq_true rfl)) d_Model_row_144 ⟨Nat.le_of_ble_eq_true rfl, Nat.le_of_ble_eq_true rfl⟩)) (fun r3 hr3 => ?_)
        have hC : r3 = (if nI a < nI tz then f_text a else -1) := hr3.trans (by rw [nI_clamp (by omega)])
        refine lv_istore (lv' := [(7, .int r3), (6, .int (nI (k))), (5, .int (sml f_text a k)), (4, .int (dgs f_text a k)), (3, .int (nI (a + k))), (0, .ref h_this), (1, .int (nI a)), (2, .int p2)]) hx hb d_Model_row_147 hl (by decide) rfl (fun ls hl => ?_)
        refine lv_iload_n hx hb d_Model_row_149 rfl (lv_at hl 7 rfl) ?_
        refine lv_if_eq (tgt := 203) hx hb d_Model_row_150 (by decide) (fun c4 => ?_) (fun c4 => ?_)
        · refine lv_iload hx hb d_Model_row_203 (lv_at hl 3 rfl) ?_
          refine lv_if_eq (tgt := 227) hx hb d_Model_row_205 (by decide) (fun c5 => ?_) (fun c5 => ?_)
          · refine lv_iload hx hb d_Model_row_227 (lv_at hl 1 rfl) ?_
            refine lv_bipush (v := 8) hx hb d_Model_row_229 (by decide) ?_
            refine lv_icmp_gt (tgt := 242) hx hb d_Model_row_231 (by decide) (fun c6 => ?_) (fun c6 => ?_)
            · have b6 : (8) < ((k)) := (ni_lt (by omega) (by omega) ).1 c6
              refine lv_aload_n hx hb d_Model_row_242 rfl (lv_at hl 5 rfl) ?_
              refine lv_iconst (v := 0) hx hb d_Model_row_243 (by decide) ?_
              refine va_put (D := (dC, dI)) (ci := 12) (v := .int 0) (ty := .int) (C := R_Model) (T := F_Model) (N := 153) hx hb hT i_Model t_Model t_Model_ok n_Model hown hK hP hD hS 0 rfl rfl 2 (by decide) (hT _ fl_Model_352) (fun _ h9 => h9) rfl (by decide +kernel) rfl rfl (by simp only [List.length_set, hLl]; decide) d_Model_row_244 (fun H locs hP hD hS => ?_)
              have hP : va_P (dC, dI) cls_all [oc h_this 12 ((fsL0.set 4 (.int (nI (a + k)))).set 2 (.int 0)), ic h_text k_text 4000 f_text] H := hP
              have hD : va_D A [oc h_this 12 ((fsL0.set 4 (.int (nI (a + k)))).set 2 (.int 0)), ic h_text k_text 4000 f_text] := hD
              refine lv_goto (tgt := 294) hx hb d_Model_row_247 (by decide) ?_
              have hP9 := hP.sub (ws' := [oc h_this 12 ((fsL0.set 4 (.int (nI (a + k)))).set 2 (.int 0)), ic h_text k_text 4000 f_text]) [0, 1] rfl
              have hD9 := hD.sub (ws' := [oc h_this 12 ((fsL0.set 4 (.int (nI (a + k)))).set 2 (.int 0)), ic h_text k_text 4000 f_text]) [0, 1] (by decide) rfl
              have hK9 := hK.sub (tys' := [(k_text, .int)]) [0] rfl
              have hv7 : ((fsL0.set 4 (.int (nI (a + k)))).set 2 (.int 0))[6]? = some (.long (pkd f_text a k)) := ((ls_ne (by decide)).trans ((ls_ne (by decide)).trans hL6))
              have hv8 : ((fsL0.set 4 (.int (nI (a + k)))).set 2 (.int 0))[5]? = some (.int (nmb f_text a k)) := ((ls_ne (by decide)).trans ((ls_ne (by decide)).trans hL5))
              have hv9 : ((fsL0.set 4 (.int (nI (a + k)))).set 2 (.int 0))[4]? = some (.int (nI (a + k))) := ((ls_ne (by decide)).trans (ls_eq (by simp only [List.length_set, hLl]; decide)))
              have hv10 : ((fsL0.set 4 (.int (nI (a + k)))).set 2 (.int 0))[2]? = some (.int 0) := (ls_eq (by simp only [List.length_set, hLl]; decide))
              exact W.vret hx hb hr (fun t ht hW => ⟨⟨(), rfl, trivial, ((fsL0.set 4 (.int (nI (a + k)))).set 2 (.int 0)), ⟨(by first | exact hLl | (simp only [List.length_set]; exact hLl)), (fun j n6 n5 n4 n2 => ((ls_ne n2).trans ((ls_ne n4).trans (hLf j n6 n5)))), (by first | exact hv7 | (rw [hv7]; refine congrArg some (congrArg _ ?_); first | (rw [hN]; done) | (rw [hN, ← hC]; unfold srt; all_goals (first | rw [if_pos c4] | rw [if_neg c4]); all_goals (first | rw [if_pos c5] | rw [if_neg c5]); all_goals (first | rw [if_pos c6] | rw [if_neg c6])))), (by first | exact hv8 | (rw [hv8]; refine congrArg some (congrArg _ ?_); first | (rw [hN]; done) | (rw [hN, ← hC]; unfold srt; all_goals (first | rw [if_pos c4] | rw [if_neg c4]); all_goals (first | rw [if_pos c5] | rw [if_neg c5]); all_goals (first | rw [if_pos c6] | rw [if_neg c6])))), (by first | exact hv9 | (rw [hv9]; refine congrArg some (congrArg _ ?_); first | (rw [hN]; done) | (rw [hN, ← hC]; unfold srt; all_goals (first | rw [if_pos c4] | rw [if_neg c4]); all_goals (first | rw [if_pos c5] | rw [if_neg c5]); all_goals (first | rw [if_pos c6] | rw [if_neg c6])))), (by first | exact hv10 | (rw [hv10]; refine congrArg some (congrArg _ ?_); first | (rw [hN]; done) | (rw [hN, ← hC]; unfold srt; all_goals (first | rw [if_pos c4] | rw [if_neg c4]); all_goals (first | rw [if_pos c5] | rw [if_neg c5]); all_goals (first | rw [if_pos c6] | rw [if_neg c6]))))⟩, by rw [ht]; exact hP9, va_K.moved hW.alike hK9, hD9⟩, hS.F ht⟩) hS.2.2 d_Model_row_294
            · have b6 : ((k)) ≤ (8) := (ni_lt (by omega) (by omega) ).2 c6
              refine lv_iload hx hb d_Model_row_234 (lv_at hl 0 rfl) ?_
              have hPc := hP.sub (ws' := []) [] rfl
              have hKc := hK.sub (tys' := []) [] rfl
              refine vp_callSi (va_Run.run (va_runS (As := [.int r3]) (rest := []) ⟨hx, hb, hml, hown, hT⟩ (c_Model_isDigit l dC dI (p1 := r3) ) (va_cwS 1 hT (gS ml_Model_327 st_Model_isDigit ini_Model co_Model_isDigit) rfl rfl rfl (by decide +kernel) ⟨Nat.le_of_ble_eq_true rfl, Nat.le_of_ble_eq_true rfl⟩) ⟨fbS, fun U hU hW => ⟨rfl, by rw [hU]; exact hPc, va_K.moved hW.alike hKc⟩⟩ rfl rfl hl.1 rfl (lv_room (Nat.le_of_ble_eq_true rfl)) d_Model_row_236 ⟨Nat.le_of_ble_eq_true rfl, Nat.le_of_ble_eq_true rfl⟩)) (fun r11 hr11 => ?_)
              refine lv_if_eq (tgt := 250) hx hb d_Model_row_239 (by decide) (fun c12 => ?_) (fun c12 => ?_)
              · refine lv_iload hx hb d_Model_row_250 (lv_at hl 0 rfl) ?_
                have hPc := hP.sub (ws' := []) [] rfl
                have hKc := hK.sub (tys' := []) [] rfl
                refine vp_callSi (va_Run.run (va_runS (As := [.int r3]) (rest := []) ⟨hx, hb, hml, hown, hT⟩ (c_Model_isGreat l dC dI (p1 := r3) ) (va_cwS 1 hT (gS ml_Model_324 st_Model_isGreat ini_Model co_Model_isGreat) rfl rfl rfl (by decide +kernel) ⟨Nat.le_of_ble_eq_true rfl, Nat.le_of_ble_eq_true rfl⟩) ⟨fbS, fun U hU hW => ⟨rfl, by rw [hU]; exact hPc, va_K.moved hW.alike hKc⟩⟩ rfl rfl hl.1 rfl (lv_room (Nat.le_of_ble_eq_true rfl)) d_Model_row_252 ⟨Nat.le_of_ble_eq_true rfl, Nat.le_of_ble_eq_true rfl⟩)) (fun r13 hr13 => ?_)
                refine lv_if_eq (tgt := 266) hx hb d_Model_row_255 (by decide) (fun c14 => ?_) (fun c14 => ?_)
                · refine lv_aload_n hx hb d_Model_row_266 rfl (lv_at hl 5 rfl) ?_
                  refine lv_iload hx hb d_Model_row_267 (lv_at hl 2 rfl) ?_
                  refine lv_if_ne (tgt := 276) hx hb d_Model_row_269 (by decide) (fun c15 => ?_) (fun c15 => ?_)
                  · refine lv_aload_n hx hb d_Model_row_276 rfl (lv_at hl 5 rfl) ?_
                    refine va_get (D := (dC, dI)) (ci := 12) (v := .long (pkd f_text a k)) (C := R_Model) (T := F_Model) (N := 153) hx hb hT i_Model hown hK hP 0 rfl rfl 6 (by decide) (hT _ fl_Model_365) (fun _ h9 => h9) ((ls_ne (by decide)).trans hL6) d_Model_row_277 ?_
                    have hPc := hP.sub (ws' := []) [] rfl
                    have hKc := hK.sub (tys' := []) [] rfl
                    refine vp_callSi (va_Run.run (va_runS (As := [.long (pkd f_text a k)]) (rest := [.ref h_this]) ⟨hx, hb, hml, hown, hT⟩ (c_Model_isKept l dC dI (ad := ad) (av := av) (p1 := (pkd f_text a k)) ) (va_cwS 1 hT (gS ml_Model_372 st_Model_isKept ini_Model co_Model_isKept) rfl rfl rfl (by decide +kernel) ⟨Nat.le_of_ble_eq_true rfl, Nat.le_of_ble_eq_true rfl⟩) ⟨fbSe, fun U hU hW => ⟨rfl, by rw [hU]; exact hPc, va_K.moved hW.alike hKc, env0.hand henv hS hU hW (fun q h => h.elim)⟩⟩ rfl rfl hl.1 rfl (lv_room (Nat.le_of_ble_eq_true rfl)) d_Model_row_280 ⟨Nat.le_of_ble_eq_true rfl, Nat.le_of_ble_eq_true rfl⟩)) (fun r16 hr16 => ?_)
                    refine lv_if_eq (tgt := 290) hx hb d_Model_row_283 (by decide) (fun c17 => ?_) (fun c17 => ?_)
                    · refine lv_iconst (v := 1) hx hb d_Model_row_290 (by decide) ?_
                      refine va_put (D := (dC, dI)) (ci := 12) (v := .int 1) (ty := .int) (C := R_Model) (T := F_Model) (N := 153) hx hb hT i_Model t_Model t_Model_ok n_Model hown hK hP hD hS 0 rfl rfl 2 (by decide) (hT _ fl_Model_352) (fun _ h9 => h9) rfl (by decide +kernel) rfl rfl (by simp only [List.length_set, hLl]; decide) d_Model_row_291 (fun H locs hP hD hS => ?_)
                      have hP : va_P (dC, dI) cls_all [oc h_this 12 ((fsL0.set 4 (.int (nI (a + k)))).set 2 (.int 1)), ic h_text k_text 4000 f_text] H := hP
                      have hD : va_D A [oc h_this 12 ((fsL0.set 4 (.int (nI (a + k)))).set 2 (.int 1)), ic h_text k_text 4000 f_text] := hD
                      have hP9 := hP.sub (ws' := [oc h_this 12 ((fsL0.set 4 (.int (nI (a + k)))).set 2 (.int 1)), ic h_text k_text 4000 f_text]) [0, 1] rfl
                      have hD9 := hD.sub (ws' := [oc h_this 12 ((fsL0.set 4 (.int (nI (a + k)))).set 2 (.int 1)), ic h_text k_text 4000 f_text]) [0, 1] (by decide) rfl
                      have hK9 := hK.sub (tys' := [(k_text, .int)]) [0] rfl
                      have hv18 : ((fsL0.set 4 (.int (nI (a + k)))).set 2 (.int 1))[6]? = some (.long (pkd f_text a k)) := ((ls_ne (by decide)).trans ((ls_ne (by decide)).trans hL6))
                      have hv19 : ((fsL0.set 4 (.int (nI (a + k)))).set 2 (.int 1))[5]? = some (.int (nmb f_text a k)) := ((ls_ne (by decide)).trans ((ls_ne (by decide)).trans hL5))
                      have hv20 : ((fsL0.set 4 (.int (nI (a + k)))).set 2 (.int 1))[4]? = some (.int (nI (a + k))) := ((ls_ne (by decide)).trans (ls_eq (by simp only [List.length_set, hLl]; decide)))
                      have hv21 : ((fsL0.set 4 (.int (nI (a + k)))).set 2 (.int 1))[2]? = some (.int 1) := (ls_eq (by simp only [List.length_set, hLl]; decide))
                      exact W.vret hx hb hr (fun t ht hW => ⟨⟨(), rfl, trivial, ((fsL0.set 4 (.int (nI (a + k)))).set 2 (.int 1)), ⟨(by first | exact hLl | (simp only [List.length_set]; exact hLl)), (fun j n6 n5 n4 n2 => ((ls_ne n2).trans ((ls_ne n4).trans (hLf j n6 n5)))), (by first | exact hv18 | (rw [hv18]; refine congrArg some (congrArg _ ?_); first | (rw [hN]; done) | (rw [hN, ← hC]; unfold srt; all_goals (first | rw [if_pos c4] | rw [if_neg c4]); all_goals (first | rw [if_pos c5] | rw [if_neg c5]); all_goals (first | rw [if_pos c6] | rw [if_neg c6]); all_goals (first | rw [if_pos (yz hr11 c12)] | rw [if_neg (nz hr11 c12)] | (rw [← hr11]; first | rw [if_pos c12] | rw [if_neg c12])); all_goals (first | rw [if_pos (yz hr13 c14)] | rw [if_neg (nz hr13 c14)] | (rw [← hr13]; first | rw [if_pos c14] | rw [if_neg c14])); all_goals (first | rw [if_pos c15] | rw [if_neg c15]); all_goals (first | rw [if_pos (yz hr16 c17)] | rw [if_neg (nz hr16 c17)] | (rw [← hr16]; first | rw [if_pos c17] | rw [if_neg c17]))))), (by first | exact hv19 | (rw [hv19]; refine congrArg some (congrArg _ ?_); first | (rw [hN]; done) | (rw [hN, ← hC]; unfold srt; all_goals (first | rw [if_pos c4] | rw [if_neg c4]); all_goals (first | rw [if_pos c5] | rw [if_neg c5]); all_goals (first | rw [if_pos c6] | rw [if_neg c6]); all_goals (first | rw [if_pos (yz hr11 c12)] | rw [if_neg (nz hr11 c12)] | (rw [← hr11]; first | rw [if_pos c12] | rw [if_neg c12])); all_goals (first | rw [if_pos (yz hr13 c14)] | rw [if_neg (nz hr13 c14)] | (rw [← hr13]; first | rw [if_pos c14] | rw [if_neg c14])); all_goals (first | rw [if_pos c15] | rw [if_neg c15]); all_goals (first | rw [if_pos (yz hr16 c17)] | rw [if_neg (nz hr16 c17)] | (rw [← hr16]; first | rw [if_pos c17] | rw [if_neg c17]))))), (by first | exact hv20 | (rw [hv20]; refine congrArg some (congrArg _ ?_); first | (rw [hN]; done) | (rw [hN, ← hC]; unfold srt; all_goals (first | rw [if_pos c4] | rw [if_neg c4]); all_goals (first | rw [if_pos c5] | rw [if_neg c5]); all_goals (first | rw [if_pos c6] | rw [if_neg c6]); all_goals (first | rw [if_pos (yz hr11 c12)] | rw [if_neg (nz hr11 c12)] | (rw [← hr11]; first | rw [if_pos c12] | rw [if_neg c12])); all_goals (first | rw [if_pos (yz hr13 c14)] | rw [if_neg (nz hr13 c14)] | (rw [← hr13]; first | rw [if_pos c14] | rw [if_neg c14])); all_goals (first | rw [if_pos c15] | rw [if_neg c15]); all_goals (first | rw [if_pos (yz hr16 c17)] | rw [if_neg (nz hr16 c17)] | (rw [← hr16]; first | rw [if_pos c17] | rw [if_neg c17]))))), (by first | exact hv21 | (rw [hv21]; refine congrArg some (congrArg _ ?_); first | (rw [hN]; done) | (rw [hN, ← hC]; unfold srt; all_goals (first | rw [if_pos c4] | rw [if_neg c4]); all_goals (first | rw [if_pos c5] | rw [if_neg c5]); all_goals (first | rw [if_pos c6] | rw [if_neg c6]); all_goals (first | rw [if_pos (yz hr11 c12)] | rw [if_neg (nz hr11 c12)] | (rw [← hr11]; first | rw [if_pos c12] | rw [if_neg c12])); all_goals (first | rw [if_pos (yz hr13 c14)] | rw [if_neg (nz hr13 c14)] | (rw [← hr13]; first | rw [if_pos c14] | rw [if_neg c14])); all_goals (first | rw [if_pos c15] | rw [if_neg c15]); all_goals (first | rw [if_pos (yz hr16 c17)] | rw [if_neg (nz hr16 c17)] | (rw [← hr16]; first | rw [if_pos c17] | rw [if_neg c17])))))⟩, by rw [ht]; exact hP9, va_K.moved hW.alike hK9, hD9⟩, hS.F ht⟩) hS.2.2 d_Model_row_294
                    · refine lv_iconst (v := 2) hx hb d_Model_row_286 (by decide) ?_
                      refine lv_goto (tgt := 291) hx hb d_Model_row_287 (by decide) ?_
                      refine va_put (D := (dC, dI)) (ci := 12) (v := .int 2) (ty := .int) (C := R_Model) (T := F_Model) (N := 153) hx hb hT i_Model t_Model t_Model_ok n_Model hown hK hP hD hS 0 rfl rfl 2 (by decide) (hT _ fl_Model_352) (fun _ h9 => h9) rfl (by decide +kernel) rfl rfl (by simp only [List.length_set, hLl]; decide) d_Model_row_291 (fun H locs hP hD hS => ?_)
                      have hP : va_P (dC, dI) cls_all [oc h_this 12 ((fsL0.set 4 (.int (nI (a + k)))).set 2 (.int 2)), ic h_text k_text 4000 f_text] H := hP
                      have hD : va_D A [oc h_this 12 ((fsL0.set 4 (.int (nI (a + k)))).set 2 (.int 2)), ic h_text k_text 4000 f_text] := hD
                      have hP9 := hP.sub (ws' := [oc h_this 12 ((fsL0.set 4 (.int (nI (a + k)))).set 2 (.int 2)), ic h_text k_text 4000 f_text]) [0, 1] rfl
                      have hD9 := hD.sub (ws' := [oc h_this 12 ((fsL0.set 4 (.int (nI (a + k)))).set 2 (.int 2)), ic h_text k_text 4000 f_text]) [0, 1] (by decide) rfl
                      have hK9 := hK.sub (tys' := [(k_text, .int)]) [0] rfl
                      have hv22 : ((fsL0.set 4 (.int (nI (a + k)))).set 2 (.int 2))[6]? = some (.long (pkd f_text a k)) := ((ls_ne (by decide)).trans ((ls_ne (by decide)).trans hL6))
                      have hv23 : ((fsL0.set 4 (.int (nI (a + k)))).set 2 (.int 2))[5]? = some (.int (nmb f_text a k)) := ((ls_ne (by decide)).trans ((ls_ne (by decide)).trans hL5))
                      have hv24 : ((fsL0.set 4 (.int (nI (a + k)))).set 2 (.int 2))[4]? = some (.int (nI (a + k))) := ((ls_ne (by decide)).trans (ls_eq (by simp only [List.length_set, hLl]; decide)))
                      have hv25 : ((fsL0.set 4 (.int (nI (a + k)))).set 2 (.int 2))[2]? = some (.int 2) := (ls_eq (by simp only [List.length_set, hLl]; decide))
                      exact W.vret hx hb hr (fun t ht hW => ⟨⟨(), rfl, trivial, ((fsL0.set 4 (.int (nI (a + k)))).set 2 (.int 2)), ⟨(by first | exact hLl | (simp only [List.length_set]; exact hLl)), (fun j n6 n5 n4 n2 => ((ls_ne n2).trans ((ls_ne n4).trans (hLf j n6 n5)))), (by first | exact hv22 | (rw [hv22]; refine congrArg some (congrArg _ ?_); first | (rw [hN]; done) | (rw [hN, ← hC]; unfold srt; all_goals (first | rw [if_pos c4] | rw [if_neg c4]); all_goals (first | rw [if_pos c5] | rw [if_neg c5]); all_goals (first | rw [if_pos c6] | rw [if_neg c6]); all_goals (first | rw [if_pos (yz hr11 c12)] | rw [if_neg (nz hr11 c12)] | (rw [← hr11]; first | rw [if_pos c12] | rw [if_neg c12])); all_goals (first | rw [if_pos (yz hr13 c14)] | rw [if_neg (nz hr13 c14)] | (rw [← hr13]; first | rw [if_pos c14] | rw [if_neg c14])); all_goals (first | rw [if_pos c15] | rw [if_neg c15]); all_goals (first | rw [if_pos (yz hr16 c17)] | rw [if_neg (nz hr16 c17)] | (rw [← hr16]; first | rw [if_pos c17] | rw [if_neg c17]))))), (by first | exact hv23 | (rw [hv23]; refine congrArg some (congrArg _ ?_); first | (rw [hN]; done) | (rw [hN, ← hC]; unfold srt; all_goals (first | rw [if_pos c4] | rw [if_neg c4]); all_goals (first | rw [if_pos c5] | rw [if_neg c5]); all_goals (first | rw [if_pos c6] | rw [if_neg c6]); all_goals (first | rw [if_pos (yz hr11 c12)] | rw [if_neg (nz hr11 c12)] | (rw [← hr11]; first | rw [if_pos c12] | rw [if_neg c12])); all_goals (first | rw [if_pos (yz hr13 c14)] | rw [if_neg (nz hr13 c14)] | (rw [← hr13]; first | rw [if_pos c14] | rw [if_neg c14])); all_goals (first | rw [if_pos c15] | rw [if_neg c15]); all_goals (first | rw [if_pos (yz hr16 c17)] | rw [if_neg (nz hr16 c17)] | (rw [← hr16]; first | rw [if_pos c17] | rw [if_neg c17]))))), (by first | exact hv24 | (rw [hv24]; refine congrArg some (congrArg _ ?_); first | (rw [hN]; done) | (rw [hN, ← hC]; unfold srt; all_goals (first | rw [if_pos c4] | rw [if_neg c4]); all_goals (first | rw [if_pos c5] | rw [if_neg c5]); all_goals (first | rw [if_pos c6] | rw [if_neg c6]); all_goals (first | rw [if_pos (yz hr11 c12)] | rw [if_neg (nz hr11 c12)] | (rw [← hr11]; first | rw [if_pos c12] | rw [if_neg c12])); all_goals (first | rw [if_pos (yz hr13 c14)] | rw [if_neg (nz hr13 c14)] | (rw [← hr13]; first | rw [if_pos c14] | rw [if_neg c14])); all_goals (first | rw [if_pos c15] | rw [if_neg c15]); all_goals (first | rw [if_pos (yz hr16 c17)] | rw [if_neg (nz hr16 c17)] | (rw [← hr16]; first | rw [if_pos c17] | rw [if_neg c17]))))), (by first | exact hv25 | (rw [hv25]; refine congrArg some (congrArg _ ?_); first | (rw [hN]; done) | (rw [hN, ← hC]; unfold srt; all_goals (first | rw [if_pos c4] | rw [if_neg c4]); all_goals (first | rw [if_pos c5] | rw [if_neg c5]); all_goals (first | rw [if_pos c6] | rw [if_neg c6]); all_goals (first | rw [if_pos (yz hr11 c12)] | rw [if_neg (nz hr11 c12)] | (rw [← hr11]; first | rw [if_pos c12] | rw [if_neg c12])); all_goals (first | rw [if_pos (yz hr13 c14)] | rw [if_neg (nz hr13 c14)] | (rw [← hr13]; first | rw [if_pos c14] | rw [if_neg c14])); all_goals (first | rw [if_pos c15] | rw [if_neg c15]); all_goals (first | rw [if_pos (yz hr16 c17)] | rw [if_neg (nz hr16 c17)] | (rw [← hr16]; first | rw [if_pos c17] | rw [if_neg c17])))))⟩, by rw [ht]; exact hP9, va_K.moved hW.alike hK9, hD9⟩, hS.F ht⟩) hS.2.2 d_Model_row_294
                  · refine lv_iconst (v := 0) hx hb d_Model_row_272 (by decide) ?_
                    refine lv_goto (tgt := 291) hx hb d_Model_row_273 (by decide) ?_
                    refine va_put (D := (dC, dI)) (ci := 12) (v := .int 0) (ty := .int) (C := R_Model) (T := F_Model) (N := 153) hx hb hT i_Model t_Model t_Model_ok n_Model hown hK hP hD hS 0 rfl rfl 2 (by decide) (hT _ fl_Model_352) (fun _ h9 => h9) rfl (by decide +kernel) rfl rfl (by simp only [List.length_set, hLl]; decide) d_Model_row_291 (fun H locs hP hD hS => ?_)
                    have hP : va_P (dC, dI) cls_all [oc h_this 12 ((fsL0.set 4 (.int (nI (a + k)))).set 2 (.int 0)), ic h_text k_text 4000 f_text] H := hP
                    have hD : va_D A [oc h_this 12 ((fsL0.set 4 (.int (nI (a + k)))).set 2 (.int 0)), ic h_text k_text 4000 f_text] := hD
                    have hP9 := hP.sub (ws' := [oc h_this 12 ((fsL0.set 4 (.int (nI (a + k)))).set 2 (.int 0)), ic h_text k_text 4000 f_text]) [0, 1] rfl
                    have hD9 := hD.sub (ws' := [oc h_this 12 ((fsL0.set 4 (.int (nI (a + k)))).set 2 (.int 0)), ic h_text k_text 4000 f_text]) [0, 1] (by decide) rfl
                    have hK9 := hK.sub (tys' := [(k_text, .int)]) [0] rfl
                    have hv26 : ((fsL0.set 4 (.int (nI (a + k)))).set 2 (.int 0))[6]? = some (.long (pkd f_text a k)) := ((ls_ne (by decide)).trans ((ls_ne (by decide)).trans hL6))
                    have hv27 : ((fsL0.set 4 (.int (nI (a + k)))).set 2 (.int 0))[5]? = some (.int (nmb f_text a k)) := ((ls_ne (by decide)).trans ((ls_ne (by decide)).trans hL5))
                    have hv28 : ((fsL0.set 4 (.int (nI (a + k)))).set 2 (.int 0))[4]? = some (.int (nI (a + k))) := ((ls_ne (by decide)).trans (ls_eq (by simp only [List.length_set, hLl]; decide)))
                    have hv29 : ((fsL0.set 4 (.int (nI (a + k)))).set 2 (.int 0))[2]? = some (.int 0) := (ls_eq (by simp only [List.length_set, hLl]; decide))
                    exact W.vret hx hb hr (fun t ht hW => ⟨⟨(), rfl, trivial, ((fsL0.set 4 (.int (nI (a + k)))).set 2 (.int 0)), ⟨(by first | exact hLl | (simp only [List.length_set]; exact hLl)), (fun j n6 n5 n4 n2 => ((ls_ne n2).trans ((ls_ne n4).trans (hLf j n6 n5)))), (by first | exact hv26 | (rw [hv26]; refine congrArg some (congrArg _ ?_); first | (rw [hN]; done) | (rw [hN, ← hC]; unfold srt; all_goals (first | rw [if_pos c4] | rw [if_neg c4]); all_goals (first | rw [if_pos c5] | rw [if_neg c5]); all_goals (first | rw [if_pos c6] | rw [if_neg c6]); all_goals (first | rw [if_pos (yz hr11 c12)] | rw [if_neg (nz hr11 c12)] | (rw [← hr11]; first | rw [if_pos c12] | rw [if_neg c12])); all_goals (first | rw [if_pos (yz hr13 c14)] | rw [if_neg (nz hr13 c14)] | (rw [← hr13]; first | rw [if_pos c14] | rw [if_neg c14])); all_goals (first | rw [if_pos c15] | rw [if_neg c15])))), (by first | exact hv27 | (rw [hv27]; refine congrArg some (congrArg _ ?_); first | (rw [hN]; done) | (rw [hN, ← hC]; unfold srt; all_goals (first | rw [if_pos c4] | rw [if_neg c4]); all_goals (first | rw [if_pos c5] | rw [if_neg c5]); all_goals (first | rw [if_pos c6] | rw [if_neg c6]); all_goals (first | rw [if_pos (yz hr11 c12)] | rw [if_neg (nz hr11 c12)] | (rw [← hr11]; first | rw [if_pos c12] | rw [if_neg c12])); all_goals (first | rw [if_pos (yz hr13 c14)] | rw [if_neg (nz hr13 c14)] | (rw [← hr13]; first | rw [if_pos c14] | rw [if_neg c14])); all_goals (first | rw [if_pos c15] | rw [if_neg c15])))), (by first | exact hv28 | (rw [hv28]; refine congrArg some (congrArg _ ?_); first | (rw [hN]; done) | (rw [hN, ← hC]; unfold srt; all_goals (first | rw [if_pos c4] | rw [if_neg c4]); all_goals (first | rw [if_pos c5] | rw [if_neg c5]); all_goals (first | rw [if_pos c6] | rw [if_neg c6]); all_goals (first | rw [if_pos (yz hr11 c12)] | rw [if_neg (nz hr11 c12)] | (rw [← hr11]; first | rw [if_pos c12] | rw [if_neg c12])); all_goals (first | rw [if_pos (yz hr13 c14)] | rw [if_neg (nz hr13 c14)] | (rw [← hr13]; first | rw [if_pos c14] | rw [if_neg c14])); all_goals (first | rw [if_pos c15] | rw [if_neg c15])))), (by first | exact hv29 | (rw [hv29]; refine congrArg some (congrArg _ ?_); first | (rw [hN]; done) | (rw [hN, ← hC]; unfold srt; all_goals (first | rw [if_pos c4] | rw [if_neg c4]); all_goals (first | rw [if_pos c5] | rw [if_neg c5]); all_goals (first | rw [if_pos c6] | rw [if_neg c6]); all_goals (first | rw [if_pos (yz hr11 c12)] | rw [if_neg (nz hr11 c12)] | (rw [← hr11]; first | rw [if_pos c12] | rw [if_neg c12])); all_goals (first | rw [if_pos (yz hr13 c14)] | rw [if_neg (nz hr13 c14)] | (rw [← hr13]; first | rw [if_pos c14] | rw [if_neg c14])); all_goals (first | rw [if_pos c15] | rw [if_neg c15]))))⟩, by rw [ht]; exact hP9, va_K.moved hW.alike hK9, hD9⟩, hS.F ht⟩) hS.2.2 d_Model_row_294
                · refine lv_aload_n hx hb d_Model_row_258 rfl (lv_at hl 5 rfl) ?_
                  refine lv_iconst (v := 3) hx hb d_Model_row_259 (by decide) ?_
                  refine va_put (D := (dC, dI)) (ci := 12) (v := .int 3) (ty := .int) (C := R_Model) (T := F_Model) (N := 153) hx hb hT i_Model t_Model t_Model_ok n_Model hown hK hP hD hS 0 rfl rfl 2 (by decide) (hT _ fl_Model_352) (fun _ h9 => h9) rfl (by decide +kernel) rfl rfl (by simp only [List.length_set, hLl]; decide) d_Model_row_260 (fun H locs hP hD hS => ?_)
                  have hP : va_P (dC, dI) cls_all [oc h_this 12 ((fsL0.set 4 (.int (nI (a + k)))).set 2 (.int 3)), ic h_text k_text 4000 f_text] H := hP
                  have hD : va_D A [oc h_this 12 ((fsL0.set 4 (.int (nI (a + k)))).set 2 (.int 3)), ic h_text k_text 4000 f_text] := hD
                  refine lv_goto (tgt := 294) hx hb d_Model_row_263 (by decide) ?_
                  have hP9 := hP.sub (ws' := [oc h_this 12 ((fsL0.set 4 (.int (nI (a + k)))).set 2 (.int 3)), ic h_text k_text 4000 f_text]) [0, 1] rfl
                  have hD9 := hD.sub (ws' := [oc h_this 12 ((fsL0.set 4 (.int (nI (a + k)))).set 2 (.int 3)), ic h_text k_text 4000 f_text]) [0, 1] (by decide) rfl
                  have hK9 := hK.sub (tys' := [(k_text, .int)]) [0] rfl
                  have hv30 : ((fsL0.set 4 (.int (nI (a + k)))).set 2 (.int 3))[6]? = some (.long (pkd f_text a k)) := ((ls_ne (by decide)).trans ((ls_ne (by decide)).trans hL6))
                  have hv31 : ((fsL0.set 4 (.int (nI (a + k)))).set 2 (.int 3))[5]? = some (.int (nmb f_text a k)) := ((ls_ne (by decide)).trans ((ls_ne (by decide)).trans hL5))
                  have hv32 : ((fsL0.set 4 (.int (nI (a + k)))).set 2 (.int 3))[4]? = some (.int (nI (a + k))) := ((ls_ne (by decide)).trans (ls_eq (by simp only [List.length_set, hLl]; decide)))
                  have hv33 : ((fsL0.set 4 (.int (nI (a + k)))).set 2 (.int 3))[2]? = some (.int 3) := (ls_eq (by simp only [List.length_set, hLl]; decide))
                  exact W.vret hx hb hr (fun t ht hW => ⟨⟨(), rfl, trivial, ((fsL0.set 4 (.int (nI (a + k)))).set 2 (.int 3)), ⟨(by first | exact hLl | (simp only [List.length_set]; exact hLl)), (fun j n6 n5 n4 n2 => ((ls_ne n2).trans ((ls_ne n4).trans (hLf j n6 n5)))), (by first | exact hv30 | (rw [hv30]; refine congrArg some (congrArg _ ?_); first | (rw [hN]; done) | (rw [hN, ← hC]; unfold srt; all_goals (first | rw [if_pos c4] | rw [if_neg c4]); all_goals (first | rw [if_pos c5] | rw [if_neg c5]); all_goals (first | rw [if_pos c6] | rw [if_neg c6]); all_goals (first | rw [if_pos (yz hr11 c12)] | rw [if_neg (nz hr11 c12)] | (rw [← hr11]; first | rw [if_pos c12] | rw [if_neg c12])); all_goals (first | rw [if_pos (yz hr13 c14)] | rw [if_neg (nz hr13 c14)] | (rw [← hr13]; first | rw [if_pos c14] | rw [if_neg c14]))))), (by first | exact hv31 | (rw [hv31]; refine congrArg some (congrArg _ ?_); first | (rw [hN]; done) | (rw [hN, ← hC]; unfold srt; all_goals (first | rw [if_pos c4] | rw [if_neg c4]); all_goals (first | rw [if_pos c5] | rw [if_neg c5]); all_goals (first | rw [if_pos c6] | rw [if_neg c6]); all_goals (first | rw [if_pos (yz hr11 c12)] | rw [if_neg (nz hr11 c12)] | (rw [← hr11]; first | rw [if_pos c12] | rw [if_neg c12])); all_goals (first | rw [if_pos (yz hr13 c14)] | rw [if_neg (nz hr13 c14)] | (rw [← hr13]; first | rw [if_pos c14] | rw [if_neg c14]))))), (by first | exact hv32 | (rw [hv32]; refine congrArg some (congrArg _ ?_); first | (rw [hN]; done) | (rw [hN, ← hC]; unfold srt; all_goals (first | rw [if_pos c4] | rw [if_neg c4]); all_goals (first | rw [if_pos c5] | rw [if_neg c5]); all_goals (first | rw [if_pos c6] | rw [if_neg c6]); all_goals (first | rw [if_pos (yz hr11 c12)] | rw [if_neg (nz hr11 c12)] | (rw [← hr11]; first | rw [if_pos c12] | rw [if_neg c12])); all_goals (first | rw [if_pos (yz hr13 c14)] | rw [if_neg (nz hr13 c14)] | (rw [← hr13]; first | rw [if_pos c14] | rw [if_neg c14]))))), (by first | exact hv33 | (rw [hv33]; refine congrArg some (congrArg _ ?_); first | (rw [hN]; done) | (rw [hN, ← hC]; unfold srt; all_goals (first | rw [if_pos c4] | rw [if_neg c4]); all_goals (first | rw [if_pos c5] | rw [if_neg c5]); all_goals (first | rw [if_pos c6] | rw [if_neg c6]); all_goals (first | rw [if_pos (yz hr11 c12)] | rw [if_neg (nz hr11 c12)] | (rw [← hr11]; first | rw [if_pos c12] | rw [if_neg c12])); all_goals (first | rw [if_pos (yz hr13 c14)] | rw [if_neg (nz hr13 c14)] | (rw [← hr13]; first | rw [if_pos c14] | rw [if_neg c14])))))⟩, by rw [ht]; exact hP9, va_K.moved hW.alike hK9, hD9⟩, hS.F ht⟩) hS.2.2 d_Model_row_294
              · refine lv_aload_n hx hb d_Model_row_242 rfl (lv_at hl 5 rfl) ?_
                refine lv_iconst (v := 0) hx hb d_Model_row_243 (by decide) ?_
                refine va_put (D := (dC, dI)) (ci := 12) (v := .int 0) (ty := .int) (C := R_Model) (T := F_Model) (N := 153) hx hb hT i_Model t_Model t_Model_ok n_Model hown hK hP hD hS 0 rfl rfl 2 (by decide) (hT _ fl_Model_352) (fun _ h9 => h9) rfl (by decide +kernel) rfl rfl (by simp only [List.length_set, hLl]; decide) d_Model_row_244 (fun H locs hP hD hS => ?_)
                have hP : va_P (dC, dI) cls_all [oc h_this 12 ((fsL0.set 4 (.int (nI (a + k)))).set 2 (.int 0)), ic h_text k_text 4000 f_text] H := hP
                have hD : va_D A [oc h_this 12 ((fsL0.set 4 (.int (nI (a + k)))).set 2 (.int 0)), ic h_text k_text 4000 f_text] := hD
                refine lv_goto (tgt := 294) hx hb d_Model_row_247 (by decide) ?_
                have hP9 := hP.sub (ws' := [oc h_this 12 ((fsL0.set 4 (.int (nI (a + k)))).set 2 (.int 0)), ic h_text k_text 4000 f_text]) [0, 1] rfl
                have hD9 := hD.sub (ws' := [oc h_this 12 ((fsL0.set 4 (.int (nI (a + k)))).set 2 (.int 0)), ic h_text k_text 4000 f_text]) [0, 1] (by decide) rfl
                have hK9 := hK.sub (tys' := [(k_text, .int)]) [0] rfl
                have hv34 : ((fsL0.set 4 (.int (nI (a + k)))).set 2 (.int 0))[6]? = some (.long (pkd f_text a k)) := ((ls_ne (by decide)).trans ((ls_ne (by decide)).trans hL6))
                have hv35 : ((fsL0.set 4 (.int (nI (a + k)))).set 2 (.int 0))[5]? = some (.int (nmb f_text a k)) := ((ls_ne (by decide)).trans ((ls_ne (by decide)).trans hL5))
                have hv36 : ((fsL0.set 4 (.int (nI (a + k)))).set 2 (.int 0))[4]? = some (.int (nI (a + k))) := ((ls_ne (by decide)).trans (ls_eq (by simp only [List.length_set, hLl]; decide)))
                have hv37 : ((fsL0.set 4 (.int (nI (a + k)))).set 2 (.int 0))[2]? = some (.int 0) := (ls_eq (by simp only [List.length_set, hLl]; decide))
                exact W.vret hx hb hr (fun t ht hW => ⟨⟨(), rfl, trivial, ((fsL0.set 4 (.int (nI (a + k)))).set 2 (.int 0)), ⟨(by first | exact hLl | (simp only [List.length_set]; exact hLl)), (fun j n6 n5 n4 n2 => ((ls_ne n2).trans ((ls_ne n4).trans (hLf j n6 n5)))), (by first | exact hv34 | (rw [hv34]; refine congrArg some (congrArg _ ?_); first | (rw [hN]; done) | (rw [hN, ← hC]; unfold srt; all_goals (first | rw [if_pos c4] | rw [if_neg c4]); all_goals (first | rw [if_pos c5] | rw [if_neg c5]); all_goals (first | rw [if_pos c6] | rw [if_neg c6]); all_goals (first | rw [if_pos (yz hr11 c12)] | rw [if_neg (nz hr11 c12)] | (rw [← hr11]; first | rw [if_pos c12] | rw [if_neg c12]))))), (by first | exact hv35 | (rw [hv35]; refine congrArg some (congrArg _ ?_); first | (rw [hN]; done) | (rw [hN, ← hC]; unfold srt; all_goals (first | rw [if_pos c4] | rw [if_neg c4]); all_goals (first | rw [if_pos c5] | rw [if_neg c5]); all_goals (first | rw [if_pos c6] | rw [if_neg c6]); all_goals (first | rw [if_pos (yz hr11 c12)] | rw [if_neg (nz hr11 c12)] | (rw [← hr11]; first | rw [if_pos c12] | rw [if_neg c12]))))), (by first | exact hv36 | (rw [hv36]; refine congrArg some (congrArg _ ?_); first | (rw [hN]; done) | (rw [hN, ← hC]; unfold srt; all_goals (first | rw [if_pos c4] | rw [if_neg c4]); all_goals (first | rw [if_pos c5] | rw [if_neg c5]); all_goals (first | rw [if_pos c6] | rw [if_neg c6]); all_goals (first | rw [if_pos (yz hr11 c12)] | rw [if_neg (nz hr11 c12)] | (rw [← hr11]; first | rw [if_pos c12] | rw [if_neg c12]))))), (by first | exact hv37 | (rw [hv37]; refine congrArg some (congrArg _ ?_); first | (rw [hN]; done) | (rw [hN, ← hC]; unfold srt; all_goals (first | rw [if_pos c4] | rw [if_neg c4]); all_goals (first | rw [if_pos c5] | rw [if_neg c5]); all_goals (first | rw [if_pos c6] | rw [if_neg c6]); all_goals (first | rw [if_pos (yz hr11 c12)] | rw [if_neg (nz hr11 c12)] | (rw [← hr11]; first | rw [if_pos c12] | rw [if_neg c12])))))⟩, by rw [ht]; exact hP9, va_K.moved hW.alike hK9, hD9⟩, hS.F ht⟩) hS.2.2 d_Model_row_294
          · refine lv_aload_n hx hb d_Model_row_208 rfl (lv_at hl 5 rfl) ?_
            refine lv_iload hx hb d_Model_row_209 (lv_at hl 1 rfl) ?_
            refine lv_bipush (v := 10) hx hb d_Model_row_211 (by decide) ?_
            refine lv_icmp_ge (tgt := 220) hx hb d_Model_row_213 (by decide) (fun c38 => ?_) (fun c38 => ?_)
            · have b38 : (10) ≤ ((k)) := (ni_le (by omega) (by omega)).1 c38
              refine lv_iconst (v := 0) hx hb d_Model_row_220 (by decide) ?_
              refine va_put (D := (dC, dI)) (ci := 12) (v := .int 0) (ty := .int) (C := R_Model) (T := F_Model) (N := 153) hx hb hT i_Model t_Model t_Model_ok n_Model hown hK hP hD hS 0 rfl rfl 2 (by decide) (hT _ fl_Model_352) (fun _ h9 => h9) rfl (by decide +kernel) rfl rfl (by simp only [List.length_set, hLl]; decide) d_Model_row_221 (fun H locs hP hD hS => ?_)
              have hP : va_P (dC, dI) cls_all [oc h_this 12 ((fsL0.set 4 (.int (nI (a + k)))).set 2 (.int 0)), ic h_text k_text 4000 f_text] H := hP
              have hD : va_D A [oc h_this 12 ((fsL0.set 4 (.int (nI (a + k)))).set 2 (.int 0)), ic h_text k_text 4000 f_text] := hD
              refine lv_goto (tgt := 294) hx hb d_Model_row_224 (by decide) ?_
              have hP9 := hP.sub (ws' := [oc h_this 12 ((fsL0.set 4 (.int (nI (a + k)))).set 2 (.int 0)), ic h_text k_text 4000 f_text]) [0, 1] rfl
              have hD9 := hD.sub (ws' := [oc h_this 12 ((fsL0.set 4 (.int (nI (a + k)))).set 2 (.int 0)), ic h_text k_text 4000 f_text]) [0, 1] (by decide) rfl
              have hK9 := hK.sub (tys' := [(k_text, .int)]) [0] rfl
              have hv39 : ((fsL0.set 4 (.int (nI (a + k)))).set 2 (.int 0))[6]? = some (.long (pkd f_text a k)) := ((ls_ne (by decide)).trans ((ls_ne (by decide)).trans hL6))
              have hv40 : ((fsL0.set 4 (.int (nI (a + k)))).set 2 (.int 0))[5]? = some (.int (nmb f_text a k)) := ((ls_ne (by decide)).trans ((ls_ne (by decide)).trans hL5))
              have hv41 : ((fsL0.set 4 (.int (nI (a + k)))).set 2 (.int 0))[4]? = some (.int (nI (a + k))) := ((ls_ne (by decide)).trans (ls_eq (by simp only [List.length_set, hLl]; decide)))
              have hv42 : ((fsL0.set 4 (.int (nI (a + k)))).set 2 (.int 0))[2]? = some (.int 0) := (ls_eq (by simp only [List.length_set, hLl]; decide))
              exact W.vret hx hb hr (fun t ht hW => ⟨⟨(), rfl, trivial, ((fsL0.set 4 (.int (nI (a + k)))).set 2 (.int 0)), ⟨(by first | exact hLl | (simp only [List.length_set]; exact hLl)), (fun j n6 n5 n4 n2 => ((ls_ne n2).trans ((ls_ne n4).trans (hLf j n6 n5)))), (by first | exact hv39 | (rw [hv39]; refine congrArg some (congrArg _ ?_); first | (rw [hN]; done) | (rw [hN, ← hC]; unfold srt; all_goals (first | rw [if_pos c4] | rw [if_neg c4]); all_goals (first | rw [if_pos c5] | rw [if_neg c5]); all_goals (first | rw [if_pos c38] | rw [if_neg c38])))), (by first | exact hv40 | (rw [hv40]; refine congrArg some (congrArg _ ?_); first | (rw [hN]; done) | (rw [hN, ← hC]; unfold srt; all_goals (first | rw [if_pos c4] | rw [if_neg c4]); all_goals (first | rw [if_pos c5] | rw [if_neg c5]); all_goals (first | rw [if_pos c38] | rw [if_neg c38])))), (by first | exact hv41 | (rw [hv41]; refine congrArg some (congrArg _ ?_); first | (rw [hN]; done) | (rw [hN, ← hC]; unfold srt; all_goals (first | rw [if_pos c4] | rw [if_neg c4]); all_goals (first | rw [if_pos c5] | rw [if_neg c5]); all_goals (first | rw [if_pos c38] | rw [if_neg c38])))), (by first | exact hv42 | (rw [hv42]; refine congrArg some (congrArg _ ?_); first | (rw [hN]; done) | (rw [hN, ← hC]; unfold srt; all_goals (first | rw [if_pos c4] | rw [if_neg c4]); all_goals (first | rw [if_pos c5] | rw [if_neg c5]); all_goals (first | rw [if_pos c38] | rw [if_neg c38]))))⟩, by rw [ht]; exact hP9, va_K.moved hW.alike hK9, hD9⟩, hS.F ht⟩) hS.2.2 d_Model_row_294
            · have b38 : ((k)) < (10) := (ni_le (by omega) (by omega)).2 c38
              refine lv_iconst (v := 5) hx hb d_Model_row_216 (by decide) ?_
              refine lv_goto (tgt := 221) hx hb d_Model_row_217 (by decide) ?_
              refine va_put (D := (dC, dI)) (ci := 12) (v := .int 5) (ty := .int) (C := R_Model) (T := F_Model) (N := 153) hx hb hT i_Model t_Model t_Model_ok n_Model hown hK hP hD hS 0 rfl rfl 2 (by decide) (hT _ fl_Model_352) (fun _ h9 => h9) rfl (by decide +kernel) rfl rfl (by simp only [List.length_set, hLl]; decide) d_Model_row_221 (fun H locs hP hD hS => ?_)
              have hP : va_P (dC, dI) cls_all [oc h_this 12 ((fsL0.set 4 (.int (nI (a + k)))).set 2 (.int 5)), ic h_text k_text 4000 f_text] H := hP
              have hD : va_D A [oc h_this 12 ((fsL0.set 4 (.int (nI (a + k)))).set 2 (.int 5)), ic h_text k_text 4000 f_text] := hD
              refine lv_goto (tgt := 294) hx hb d_Model_row_224 (by decide) ?_
              have hP9 := hP.sub (ws' := [oc h_this 12 ((fsL0.set 4 (.int (nI (a + k)))).set 2 (.int 5)), ic h_text k_text 4000 f_text]) [0, 1] rfl
              have hD9 := hD.sub (ws' := [oc h_this 12 ((fsL0.set 4 (.int (nI (a + k)))).set 2 (.int 5)), ic h_text k_text 4000 f_text]) [0, 1] (by decide) rfl
              have hK9 := hK.sub (tys' := [(k_text, .int)]) [0] rfl
              have hv43 : ((fsL0.set 4 (.int (nI (a + k)))).set 2 (.int 5))[6]? = some (.long (pkd f_text a k)) := ((ls_ne (by decide)).trans ((ls_ne (by decide)).trans hL6))
              have hv44 : ((fsL0.set 4 (.int (nI (a + k)))).set 2 (.int 5))[5]? = some (.int (nmb f_text a k)) := ((ls_ne (by decide)).trans ((ls_ne (by decide)).trans hL5))
              have hv45 : ((fsL0.set 4 (.int (nI (a + k)))).set 2 (.int 5))[4]? = some (.int (nI (a + k))) := ((ls_ne (by decide)).trans (ls_eq (by simp only [List.length_set, hLl]; decide)))
              have hv46 : ((fsL0.set 4 (.int (nI (a + k)))).set 2 (.int 5))[2]? = some (.int 5) := (ls_eq (by simp only [List.length_set, hLl]; decide))
              exact W.vret hx hb hr (fun t ht hW => ⟨⟨(), rfl, trivial, ((fsL0.set 4 (.int (nI (a + k)))).set 2 (.int 5)), ⟨(by first | exact hLl | (simp only [List.length_set]; exact hLl)), (fun j n6 n5 n4 n2 => ((ls_ne n2).trans ((ls_ne n4).trans (hLf j n6 n5)))), (by first | exact hv43 | (rw [hv43]; refine congrArg some (congrArg _ ?_); first | (rw [hN]; done) | (rw [hN, ← hC]; unfold srt; all_goals (first | rw [if_pos c4] | rw [if_neg c4]); all_goals (first | rw [if_pos c5] | rw [if_neg c5]); all_goals (first | rw [if_pos c38] | rw [if_neg c38])))), (by first | exact hv44 | (rw [hv44]; refine congrArg some (congrArg _ ?_); first | (rw [hN]; done) | (rw [hN, ← hC]; unfold srt; all_goals (first | rw [if_pos c4] | rw [if_neg c4]); all_goals (first | rw [if_pos c5] | rw [if_neg c5]); all_goals (first | rw [if_pos c38] | rw [if_neg c38])))), (by first | exact hv45 | (rw [hv45]; refine congrArg some (congrArg _ ?_); first | (rw [hN]; done) | (rw [hN, ← hC]; unfold srt; all_goals (first | rw [if_pos c4] | rw [if_neg c4]); all_goals (first | rw [if_pos c5] | rw [if_neg c5]); all_goals (first | rw [if_pos c38] | rw [if_neg c38])))), (by first | exact hv46 | (rw [hv46]; refine congrArg some (congrArg _ ?_); first | (rw [hN]; done) | (rw [hN, ← hC]; unfold srt; all_goals (first | rw [if_pos c4] | rw [if_neg c4]); all_goals (first | rw [if_pos c5] | rw [if_neg c5]); all_goals (first | rw [if_pos c38] | rw [if_neg c38]))))⟩, by rw [ht]; exact hP9, va_K.moved hW.alike hK9, hD9⟩, hS.F ht⟩) hS.2.2 d_Model_row_294
        · refine lv_aload_n hx hb d_Model_row_153 rfl (lv_at hl 5 rfl) ?_
          refine lv_iload hx hb d_Model_row_154 (lv_at hl 1 rfl) ?_
          refine lv_iconst (v := 1) hx hb d_Model_row_156 (by decide) ?_
          refine lv_icmp_ne (tgt := 167) hx hb d_Model_row_157 (by decide) (fun c47 => ?_) (fun c47 => ?_)
          · refine lv_iload hx hb d_Model_row_167 (lv_at hl 1 rfl) ?_
            refine lv_if_le (tgt := 196) hx hb d_Model_row_169 (by decide) (fun c48 => ?_) (fun c48 => ?_)
            · have b48 : ((k)) ≤ (0) := (ni_le (by omega) (by omega)).1 c48
              refine lv_iconst (v := 0) hx hb d_Model_row_196 (by decide) ?_
              refine va_put (D := (dC, dI)) (ci := 12) (v := .int 0) (ty := .int) (C := R_Model) (T := F_Model) (N := 153) hx hb hT i_Model t_Model t_Model_ok n_Model hown hK hP hD hS 0 rfl rfl 2 (by decide) (hT _ fl_Model_352) (fun _ h9 => h9) rfl (by decide +kernel) rfl rfl (by simp only [List.length_set, hLl]; decide) d_Model_row_197 (fun H locs hP hD hS => ?_)
              have hP : va_P (dC, dI) cls_all [oc h_this 12 ((fsL0.set 4 (.int (nI (a + k)))).set 2 (.int 0)), ic h_text k_text 4000 f_text] H := hP
              have hD : va_D A [oc h_this 12 ((fsL0.set 4 (.int (nI (a + k)))).set 2 (.int 0)), ic h_text k_text 4000 f_text] := hD
              refine lv_goto (tgt := 294) hx hb d_Model_row_200 (by decide) ?_
              have hP9 := hP.sub (ws' := [oc h_this 12 ((fsL0.set 4 (.int (nI (a + k)))).set 2 (.int 0)), ic h_text k_text 4000 f_text]) [0, 1] rfl
              have hD9 := hD.sub (ws' := [oc h_this 12 ((fsL0.set 4 (.int (nI (a + k)))).set 2 (.int 0)), ic h_text k_text 4000 f_text]) [0, 1] (by decide) rfl
              have hK9 := hK.sub (tys' := [(k_text, .int)]) [0] rfl
              have hv49 : ((fsL0.set 4 (.int (nI (a + k)))).set 2 (.int 0))[6]? = some (.long (pkd f_text a k)) := ((ls_ne (by decide)).trans ((ls_ne (by decide)).trans hL6))
              have hv50 : ((fsL0.set 4 (.int (nI (a + k)))).set 2 (.int 0))[5]? = some (.int (nmb f_text a k)) := ((ls_ne (by decide)).trans ((ls_ne (by decide)).trans hL5))
              have hv51 : ((fsL0.set 4 (.int (nI (a + k)))).set 2 (.int 0))[4]? = some (.int (nI (a + k))) := ((ls_ne (by decide)).trans (ls_eq (by simp only [List.length_set, hLl]; decide)))
              have hv52 : ((fsL0.set 4 (.int (nI (a + k)))).set 2 (.int 0))[2]? = some (.int 0) := (ls_eq (by simp only [List.length_set, hLl]; decide))
              exact W.vret hx hb hr (fun t ht hW => ⟨⟨(), rfl, trivial, ((fsL0.set 4 (.int (nI (a + k)))).set 2 (.int 0)), ⟨(by first | exact hLl | (simp only [List.length_set]; exact hLl)), (fun j n6 n5 n4 n2 => ((ls_ne n2).trans ((ls_ne n4).trans (hLf j n6 n5)))), (by first | exact hv49 | (rw [hv49]; refine congrArg some (congrArg _ ?_); first | (rw [hN]; done) | (rw [hN, ← hC]; unfold srt; all_goals (first | rw [if_pos c4] | rw [if_neg c4]); all_goals (first | rw [if_pos c47] | rw [if_neg c47]); all_goals (first | rw [if_pos c48] | rw [if_neg c48])))), (by first | exact hv50 | (rw [hv50]; refine congrArg some (congrArg _ ?_); first | (rw [hN]; done) | (rw [hN, ← hC]; unfold srt; all_goals (first | rw [if_pos c4] | rw [if_neg c4]); all_goals (first | rw [if_pos c47] | rw [if_neg c47]); all_goals (first | rw [if_pos c48] | rw [if_neg c48])))), (by first | exact hv51 | (rw [hv51]; refine congrArg some (congrArg _ ?_); first | (rw [hN]; done) | (rw [hN, ← hC]; unfold srt; all_goals (first | rw [if_pos c4] | rw [if_neg c4]); all_goals (first | rw [if_pos c47] | rw [if_neg c47]); all_goals (first | rw [if_pos c48] | rw [if_neg c48])))), (by first | exact hv52 | (rw [hv52]; refine congrArg some (congrArg _ ?_); first | (rw [hN]; done) | (rw [hN, ← hC]; unfold srt; all_goals (first | rw [if_pos c4] | rw [if_neg c4]); all_goals (first | rw [if_pos c47] | rw [if_neg c47]); all_goals (first | rw [if_pos c48] | rw [if_neg c48]))))⟩, by rw [ht]; exact hP9, va_K.moved hW.alike hK9, hD9⟩, hS.F ht⟩) hS.2.2 d_Model_row_294
            · have b48 : (0) < ((k)) := (ni_le (by omega) (by omega)).2 c48
              refine lv_iload hx hb d_Model_row_172 (lv_at hl 1 rfl) ?_
              refine lv_bipush (v := 9) hx hb d_Model_row_174 (by decide) ?_
              refine lv_icmp_ge (tgt := 196) hx hb d_Model_row_176 (by decide) (fun c53 => ?_) (fun c53 => ?_)
              · have b53 : (9) ≤ ((k)) := (ni_le (by omega) (by omega)).1 c53
                refine lv_iconst (v := 0) hx hb d_Model_row_196 (by decide) ?_
                refine va_put (D := (dC, dI)) (ci := 12) (v := .int 0) (ty := .int) (C := R_Model) (T := F_Model) (N := 153) hx hb hT i_Model t_Model t_Model_ok n_Model hown hK hP hD hS 0 rfl rfl 2 (by decide) (hT _ fl_Model_352) (fun _ h9 => h9) rfl (by decide +kernel) rfl rfl (by simp only [List.length_set, hLl]; decide) d_Model_row_197 (fun H locs hP hD hS => ?_)
                have hP : va_P (dC, dI) cls_all [oc h_this 12 ((fsL0.set 4 (.int (nI (a + k)))).set 2 (.int 0)), ic h_text k_text 4000 f_text] H := hP
                have hD : va_D A [oc h_this 12 ((fsL0.set 4 (.int (nI (a + k)))).set 2 (.int 0)), ic h_text k_text 4000 f_text] := hD
                refine lv_goto (tgt := 294) hx hb d_Model_row_200 (by decide) ?_
                have hP9 := hP.sub (ws' := [oc h_this 12 ((fsL0.set 4 (.int (nI (a + k)))).set 2 (.int 0)), ic h_text k_text 4000 f_text]) [0, 1] rfl
                have hD9 := hD.sub (ws' := [oc h_this 12 ((fsL0.set 4 (.int (nI (a + k)))).set 2 (.int 0)), ic h_text k_text 4000 f_text]) [0, 1] (by decide) rfl
                have hK9 := hK.sub (tys' := [(k_text, .int)]) [0] rfl
                have hv54 : ((fsL0.set 4 (.int (nI (a + k)))).set 2 (.int 0))[6]? = some (.long (pkd f_text a k)) := ((ls_ne (by decide)).trans ((ls_ne (by decide)).trans hL6))
                have hv55 : ((fsL0.set 4 (.int (nI (a + k)))).set 2 (.int 0))[5]? = some (.int (nmb f_text a k)) := ((ls_ne (by decide)).trans ((ls_ne (by decide)).trans hL5))
                have hv56 : ((fsL0.set 4 (.int (nI (a + k)))).set 2 (.int 0))[4]? = some (.int (nI (a + k))) := ((ls_ne (by decide)).trans (ls_eq (by simp only [List.length_set, hLl]; decide)))
                have hv57 : ((fsL0.set 4 (.int (nI (a + k)))).set 2 (.int 0))[2]? = some (.int 0) := (ls_eq (by simp only [List.length_set, hLl]; decide))
                exact W.vret hx hb hr (fun t ht hW => ⟨⟨(), rfl, trivial, ((fsL0.set 4 (.int (nI (a + k)))).set 2 (.int 0)), ⟨(by first | exact hLl | (simp only [List.length_set]; exact hLl)), (fun j n6 n5 n4 n2 => ((ls_ne n2).trans ((ls_ne n4).trans (hLf j n6 n5)))), (by first | exact hv54 | (rw [hv54]; refine congrArg some (congrArg _ ?_); first | (rw [hN]; done) | (rw [hN, ← hC]; unfold srt; all_goals (first | rw [if_pos c4] | rw [if_neg c4]); all_goals (first | rw [if_pos c47] | rw [if_neg c47]); all_goals (first | rw [if_pos c48] | rw [if_neg c48]); all_goals (first | rw [if_pos c53] | rw [if_neg c53])))), (by first | exact hv55 | (rw [hv55]; refine congrArg some (congrArg _ ?_); first | (rw [hN]; done) | (rw [hN, ← hC]; unfold srt; all_goals (first | rw [if_pos c4] | rw [if_neg c4]); all_goals (first | rw [if_pos c47] | rw [if_neg c47]); all_goals (first | rw [if_pos c48] | rw [if_neg c48]); all_goals (first | rw [if_pos c53] | rw [if_neg c53])))), (by first | exact hv56 | (rw [hv56]; refine congrArg some (congrArg _ ?_); first | (rw [hN]; done) | (rw [hN, ← hC]; unfold srt; all_goals (first | rw [if_pos c4] | rw [if_neg c4]); all_goals (first | rw [if_pos c47] | rw [if_neg c47]); all_goals (first | rw [if_pos c48] | rw [if_neg c48]); all_goals (first | rw [if_pos c53] | rw [if_neg c53])))), (by first | exact hv57 | (rw [hv57]; refine congrArg some (congrArg _ ?_); first | (rw [hN]; done) | (rw [hN, ← hC]; unfold srt; all_goals (first | rw [if_pos c4] | rw [if_neg c4]); all_goals (first | rw [if_pos c47] | rw [if_neg c47]); all_goals (first | rw [if_pos c48] | rw [if_neg c48]); all_goals (first | rw [if_pos c53] | rw [if_neg c53]))))⟩, by rw [ht]; exact hP9, va_K.moved hW.alike hK9, hD9⟩, hS.F ht⟩) hS.2.2 d_Model_row_294
              · have b53 : ((k)) < (9) := (ni_le (by omega) (by omega)).2 c53
                refine lv_iload hx hb d_Model_row_179 (lv_at hl 2 rfl) ?_
                refine lv_if_eq (tgt := 196) hx hb d_Model_row_181 (by decide) (fun c58 => ?_) (fun c58 => ?_)
                · refine lv_iconst (v := 0) hx hb d_Model_row_196 (by decide) ?_
                  refine va_put (D := (dC, dI)) (ci := 12) (v := .int 0) (ty := .int) (C := R_Model) (T := F_Model) (N := 153) hx hb hT i_Model t_Model t_Model_ok n_Model hown hK hP hD hS 0 rfl rfl 2 (by decide) (hT _ fl_Model_352) (fun _ h9 => h9) rfl (by decide +kernel) rfl rfl (by simp only [List.length_set, hLl]; decide) d_Model_row_197 (fun H locs hP hD hS => ?_)
                  have hP : va_P (dC, dI) cls_all [oc h_this 12 ((fsL0.set 4 (.int (nI (a + k)))).set 2 (.int 0)), ic h_text k_text 4000 f_text] H := hP
                  have hD : va_D A [oc h_this 12 ((fsL0.set 4 (.int (nI (a + k)))).set 2 (.int 0)), ic h_text k_text 4000 f_text] := hD
                  refine lv_goto (tgt := 294) hx hb d_Model_row_200 (by decide) ?_
                  have hP9 := hP.sub (ws' := [oc h_this 12 ((fsL0.set 4 (.int (nI (a + k)))).set 2 (.int 0)), ic h_text k_text 4000 f_text]) [0, 1] rfl
                  have hD9 := hD.sub (ws' := [oc h_this 12 ((fsL0.set 4 (.int (nI (a + k)))).set 2 (.int 0)), ic h_text k_text 4000 f_text]) [0, 1] (by decide) rfl
                  have hK9 := hK.sub (tys' := [(k_text, .int)]) [0] rfl
                  have hv59 : ((fsL0.set 4 (.int (nI (a + k)))).set 2 (.int 0))[6]? = some (.long (pkd f_text a k)) := ((ls_ne (by decide)).trans ((ls_ne (by decide)).trans hL6))
                  have hv60 : ((fsL0.set 4 (.int (nI (a + k)))).set 2 (.int 0))[5]? = some (.int (nmb f_text a k)) := ((ls_ne (by decide)).trans ((ls_ne (by decide)).trans hL5))
                  have hv61 : ((fsL0.set 4 (.int (nI (a + k)))).set 2 (.int 0))[4]? = some (.int (nI (a + k))) := ((ls_ne (by decide)).trans (ls_eq (by simp only [List.length_set, hLl]; decide)))
                  have hv62 : ((fsL0.set 4 (.int (nI (a + k)))).set 2 (.int 0))[2]? = some (.int 0) := (ls_eq (by simp only [List.length_set, hLl]; decide))
                  exact W.vret hx hb hr (fun t ht hW => ⟨⟨(), rfl, trivial, ((fsL0.set 4 (.int (nI (a + k)))).set 2 (.int 0)), ⟨(by first | exact hLl | (simp only [List.length_set]; exact hLl)), (fun j n6 n5 n4 n2 => ((ls_ne n2).trans ((ls_ne n4).trans (hLf j n6 n5)))), (by first | exact hv59 | (rw [hv59]; refine congrArg some (congrArg _ ?_); first | (rw [hN]; done) | (rw [hN, ← hC]; unfold srt; all_goals (first | rw [if_pos c4] | rw [if_neg c4]); all_goals (first | rw [if_pos c47] | rw [if_neg c47]); all_goals (first | rw [if_pos c48] | rw [if_neg c48]); all_goals (first | rw [if_pos c53] | rw [if_neg c53]); all_goals (first | rw [if_pos c58] | rw [if_neg c58])))), (by first | exact hv60 | (rw [hv60]; refine congrArg some (congrArg _ ?_); first | (rw [hN]; done) | (rw [hN, ← hC]; unfold srt; all_goals (first | rw [if_pos c4] | rw [if_neg c4]); all_goals (first | rw [if_pos c47] | rw [if_neg c47]); all_goals (first | rw [if_pos c48] | rw [if_neg c48]); all_goals (first | rw [if_pos c53] | rw [if_neg c53]); all_goals (first | rw [if_pos c58] | rw [if_neg c58])))), (by first | exact hv61 | (rw [hv61]; refine congrArg some (congrArg _ ?_); first | (rw [hN]; done) | (rw [hN, ← hC]; unfold srt; all_goals (first | rw [if_pos c4] | rw [if_neg c4]); all_goals (first | rw [if_pos c47] | rw [if_neg c47]); all_goals (first | rw [if_pos c48] | rw [if_neg c48]); all_goals (first | rw [if_pos c53] | rw [if_neg c53]); all_goals (first | rw [if_pos c58] | rw [if_neg c58])))), (by first | exact hv62 | (rw [hv62]; refine congrArg some (congrArg _ ?_); first | (rw [hN]; done) | (rw [hN, ← hC]; unfold srt; all_goals (first | rw [if_pos c4] | rw [if_neg c4]); all_goals (first | rw [if_pos c47] | rw [if_neg c47]); all_goals (first | rw [if_pos c48] | rw [if_neg c48]); all_goals (first | rw [if_pos c53] | rw [if_neg c53]); all_goals (first | rw [if_pos c58] | rw [if_neg c58]))))⟩, by rw [ht]; exact hP9, va_K.moved hW.alike hK9, hD9⟩, hS.F ht⟩) hS.2.2 d_Model_row_294
                · refine lv_iload hx hb d_Model_row_184 (lv_at hl 0 rfl) ?_
                  have hPc := hP.sub (ws' := []) [] rfl
                  have hKc := hK.sub (tys' := []) [] rfl
                  refine vp_callSi (va_Run.run (va_runS (As := [.int r3]) (rest := [.ref h_this]) ⟨hx, hb, hml, hown, hT⟩ (c_Model_isSmall l dC dI (p1 := r3) ) (va_cwS 1 hT (gS ml_Model_320 st_Model_isSmall ini_Model co_Model_isSmall) rfl rfl rfl (by decide +kernel) ⟨Nat.le_of_ble_eq_true rfl, Nat.le_of_ble_eq_true rfl⟩) ⟨fbS, fun U hU hW => ⟨rfl, by rw [hU]; exact hPc, va_K.moved hW.alike hKc⟩⟩ rfl rfl hl.1 rfl (lv_room (Nat.le_of_ble_eq_true rfl)) d_Model_row_186 ⟨Nat.le_of_ble_eq_true rfl, Nat.le_of_ble_eq_true rfl⟩)) (fun r63 hr63 => ?_)
                  refine lv_if_eq (tgt := 196) hx hb d_Model_row_189 (by decide) (fun c64 => ?_) (fun c64 => ?_)
                  · refine lv_iconst (v := 0) hx hb d_Model_row_196 (by decide) ?_
                    refine va_put (D := (dC, dI)) (ci := 12) (v := .int 0) (ty := .int) (C := R_Model) (T := F_Model) (N := 153) hx hb hT i_Model t_Model t_Model_ok n_Model hown hK hP hD hS 0 rfl rfl 2 (by decide) (hT _ fl_Model_352) (fun _ h9 => h9) rfl (by decide +kernel) rfl rfl (by simp only [List.length_set, hLl]; decide) d_Model_row_197 (fun H locs hP hD hS => ?_)
                    have hP : va_P (dC, dI) cls_all [oc h_this 12 ((fsL0.set 4 (.int (nI (a + k)))).set 2 (.int 0)), ic h_text k_text 4000 f_text] H := hP
                    have hD : va_D A [oc h_this 12 ((fsL0.set 4 (.int (nI (a + k)))).set 2 (.int 0)), ic h_text k_text 4000 f_text] := hD
                    refine lv_goto (tgt := 294) hx hb d_Model_row_200 (by decide) ?_
                    have hP9 := hP.sub (ws' := [oc h_this 12 ((fsL0.set 4 (.int (nI (a + k)))).set 2 (.int 0)), ic h_text k_text 4000 f_text]) [0, 1] rfl
                    have hD9 := hD.sub (ws' := [oc h_this 12 ((fsL0.set 4 (.int (nI (a + k)))).set 2 (.int 0)), ic h_text k_text 4000 f_text]) [0, 1] (by decide) rfl
                    have hK9 := hK.sub (tys' := [(k_text, .int)]) [0] rfl
                    have hv65 : ((fsL0.set 4 (.int (nI (a + k)))).set 2 (.int 0))[6]? = some (.long (pkd f_text a k)) := ((ls_ne (by decide)).trans ((ls_ne (by decide)).trans hL6))
                    have hv66 : ((fsL0.set 4 (.int (nI (a + k)))).set 2 (.int 0))[5]? = some (.int (nmb f_text a k)) := ((ls_ne (by decide)).trans ((ls_ne (by decide)).trans hL5))
                    have hv67 : ((fsL0.set 4 (.int (nI (a + k)))).set 2 (.int 0))[4]? = some (.int (nI (a + k))) := ((ls_ne (by decide)).trans (ls_eq (by simp only [List.length_set, hLl]; decide)))
                    have hv68 : ((fsL0.set 4 (.int (nI (a + k)))).set 2 (.int 0))[2]? = some (.int 0) := (ls_eq (by simp only [List.length_set, hLl]; decide))
                    exact W.vret hx hb hr (fun t ht hW => ⟨⟨(), rfl, trivial, ((fsL0.set 4 (.int (nI (a + k)))).set 2 (.int 0)), ⟨(by first | exact hLl | (simp only [List.length_set]; exact hLl)), (fun j n6 n5 n4 n2 => ((ls_ne n2).trans ((ls_ne n4).trans (hLf j n6 n5)))), (by first | exact hv65 | (rw [hv65]; refine congrArg some (congrArg _ ?_); first | (rw [hN]; done) | (rw [hN, ← hC]; unfold srt; all_goals (first | rw [if_pos c4] | rw [if_neg c4]); all_goals (first | rw [if_pos c47] | rw [if_neg c47]); all_goals (first | rw [if_pos c48] | rw [if_neg c48]); all_goals (first | rw [if_pos c53] | rw [if_neg c53]); all_goals (first | rw [if_pos c58] | rw [if_neg c58]); all_goals (first | rw [if_pos (yz hr63 c64)] | rw [if_neg (nz hr63 c64)] | (rw [← hr63]; first | rw [if_pos c64] | rw [if_neg c64]))))), (by first | exact hv66 | (rw [hv66]; refine congrArg some (congrArg _ ?_); first | (rw [hN]; done) | (rw [hN, ← hC]; unfold srt; all_goals (first | rw [if_pos c4] | rw [if_neg c4]); all_goals (first | rw [if_pos c47] | rw [if_neg c47]); all_goals (first | rw [if_pos c48] | rw [if_neg c48]); all_goals (first | rw [if_pos c53] | rw [if_neg c53]); all_goals (first | rw [if_pos c58] | rw [if_neg c58]); all_goals (first | rw [if_pos (yz hr63 c64)] | rw [if_neg (nz hr63 c64)] | (rw [← hr63]; first | rw [if_pos c64] | rw [if_neg c64]))))), (by first | exact hv67 | (rw [hv67]; refine congrArg some (congrArg _ ?_); first | (rw [hN]; done) | (rw [hN, ← hC]; unfold srt; all_goals (first | rw [if_pos c4] | rw [if_neg c4]); all_goals (first | rw [if_pos c47] | rw [if_neg c47]); all_goals (first | rw [if_pos c48] | rw [if_neg c48]); all_goals (first | rw [if_pos c53] | rw [if_neg c53]); all_goals (first | rw [if_pos c58] | rw [if_neg c58]); all_goals (first | rw [if_pos (yz hr63 c64)] | rw [if_neg (nz hr63 c64)] | (rw [← hr63]; first | rw [if_pos c64] | rw [if_neg c64]))))), (by first | exact hv68 | (rw [hv68]; refine congrArg some (congrArg _ ?_); first | (rw [hN]; done) | (rw [hN, ← hC]; unfold srt; all_goals (first | rw [if_pos c4] | rw [if_neg c4]); all_goals (first | rw [if_pos c47] | rw [if_neg c47]); all_goals (first | rw [if_pos c48] | rw [if_neg c48]); all_goals (first | rw [if_pos c53] | rw [if_neg c53]); all_goals (first | rw [if_pos c58] | rw [if_neg c58]); all_goals (first | rw [if_pos (yz hr63 c64)] | rw [if_neg (nz hr63 c64)] | (rw [← hr63]; first | rw [if_pos c64] | rw [if_neg c64])))))⟩, by rw [ht]; exact hP9, va_K.moved hW.alike hK9, hD9⟩, hS.F ht⟩) hS.2.2 d_Model_row_294
                  · refine lv_iconst (v := 4) hx hb d_Model_row_192 (by decide) ?_
                    refine lv_goto (tgt := 197) hx hb d_Model_row_193 (by decide) ?_
                    refine va_put (D := (dC, dI)) (ci := 12) (v := .int 4) (ty := .int) (C := R_Model) (T := F_Model) (N := 153) hx hb hT i_Model t_Model t_Model_ok n_Model hown hK hP hD hS 0 rfl rfl 2 (by decide) (hT _ fl_Model_352) (fun _ h9 => h9) rfl (by decide +kernel) rfl rfl (by simp only [List.length_set, hLl]; decide) d_Model_row_197 (fun H locs hP hD hS => ?_)
                    have hP : va_P (dC, dI) cls_all [oc h_this 12 ((fsL0.set 4 (.int (nI (a + k)))).set 2 (.int 4)), ic h_text k_text 4000 f_text] H := hP
                    have hD : va_D A [oc h_this 12 ((fsL0.set 4 (.int (nI (a + k)))).set 2 (.int 4)), ic h_text k_text 4000 f_text] := hD
                    refine lv_goto (tgt := 294) hx hb d_Model_row_200 (by decide) ?_
                    have hP9 := hP.sub (ws' := [oc h_this 12 ((fsL0.set 4 (.int (nI (a + k)))).set 2 (.int 4)), ic h_text k_text 4000 f_text]) [0, 1] rfl
                    have hD9 := hD.sub (ws' := [oc h_this 12 ((fsL0.set 4 (.int (nI (a + k)))).set 2 (.int 4)), ic h_text k_text 4000 f_text]) [0, 1] (by decide) rfl
                    have hK9 := hK.sub (tys' := [(k_text, .int)]) [0] rfl
                    have hv69 : ((fsL0.set 4 (.int (nI (a + k)))).set 2 (.int 4))[6]? = some (.long (pkd f_text a k)) := ((ls_ne (by decide)).trans ((ls_ne (by decide)).trans hL6))
                    have hv70 : ((fsL0.set 4 (.int (nI (a + k)))).set 2 (.int 4))[5]? = some (.int (nmb f_text a k)) := ((ls_ne (by decide)).trans ((ls_ne (by decide)).trans hL5))
                    have hv71 : ((fsL0.set 4 (.int (nI (a + k)))).set 2 (.int 4))[4]? = some (.int (nI (a + k))) := ((ls_ne (by decide)).trans (ls_eq (by simp only [List.length_set, hLl]; decide)))
                    have hv72 : ((fsL0.set 4 (.int (nI (a + k)))).set 2 (.int 4))[2]? = some (.int 4) := (ls_eq (by simp only [List.length_set, hLl]; decide))
                    exact W.vret hx hb hr (fun t ht hW => ⟨⟨(), rfl, trivial, ((fsL0.set 4 (.int (nI (a + k)))).set 2 (.int 4)), ⟨(by first | exact hLl | (simp only [List.length_set]; exact hLl)), (fun j n6 n5 n4 n2 => ((ls_ne n2).trans ((ls_ne n4).trans (hLf j n6 n5)))), (by first | exact hv69 | (rw [hv69]; refine congrArg some (congrArg _ ?_); first | (rw [hN]; done) | (rw [hN, ← hC]; unfold srt; all_goals (first | rw [if_pos c4] | rw [if_neg c4]); all_goals (first | rw [if_pos c47] | rw [if_neg c47]); all_goals (first | rw [if_pos c48] | rw [if_neg c48]); all_goals (first | rw [if_pos c53] | rw [if_neg c53]); all_goals (first | rw [if_pos c58] | rw [if_neg c58]); all_goals (first | rw [if_pos (yz hr63 c64)] | rw [if_neg (nz hr63 c64)] | (rw [← hr63]; first | rw [if_pos c64] | rw [if_neg c64]))))), (by first | exact hv70 | (rw [hv70]; refine congrArg some (congrArg _ ?_); first | (rw [hN]; done) | (rw [hN, ← hC]; unfold srt; all_goals (first | rw [if_pos c4] | rw [if_neg c4]); all_goals (first | rw [if_pos c47] | rw [if_neg c47]); all_goals (first | rw [if_pos c48] | rw [if_neg c48]); all_goals (first | rw [if_pos c53] | rw [if_neg c53]); all_goals (first | rw [if_pos c58] | rw [if_neg c58]); all_goals (first | rw [if_pos (yz hr63 c64)] | rw [if_neg (nz hr63 c64)] | (rw [← hr63]; first | rw [if_pos c64] | rw [if_neg c64]))))), (by first | exact hv71 | (rw [hv71]; refine congrArg some (congrArg _ ?_); first | (rw [hN]; done) | (rw [hN, ← hC]; unfold srt; all_goals (first | rw [if_pos c4] | rw [if_neg c4]); all_goals (first | rw [if_pos c47] | rw [if_neg c47]); all_goals (first | rw [if_pos c48] | rw [if_neg c48]); all_goals (first | rw [if_pos c53] | rw [if_neg c53]); all_goals (first | rw [if_pos c58] | rw [if_neg c58]); all_goals (first | rw [if_pos (yz hr63 c64)] | rw [if_neg (nz hr63 c64)] | (rw [← hr63]; first | rw [if_pos c64] | rw [if_neg c64]))))), (by first | exact hv72 | (rw [hv72]; refine congrArg some (congrArg _ ?_); first | (rw [hN]; done) | (rw [hN, ← hC]; unfold srt; all_goals (first | rw [if_pos c4] | rw [if_neg c4]); all_goals (first | rw [if_pos c47] | rw [if_neg c47]); all_goals (first | rw [if_pos c48] | rw [if_neg c48]); all_goals (first | rw [if_pos c53] | rw [if_neg c53]); all_goals (first | rw [if_pos c58] | rw [if_neg c58]); all_goals (first | rw [if_pos (yz hr63 c64)] | rw [if_neg (nz hr63 c64)] | (rw [← hr63]; first | rw [if_pos c64] | rw [if_neg c64])))))⟩, by rw [ht]; exact hP9, va_K.moved hW.alike hK9, hD9⟩, hS.F ht⟩) hS.2.2 d_Model_row_294
          · refine lv_iload hx hb d_Model_row_160 (lv_at hl 0 rfl) ?_
            refine lv_bipush (v := 72) hx hb d_Model_row_162 (by decide) ?_
            refine lv_icmp_eq (tgt := 192) hx hb d_Model_row_164 (by decide) (fun c73 => ?_) (fun c73 => ?_)
            · refine lv_iconst (v := 4) hx hb d_Model_row_192 (by decide) ?_
              refine lv_goto (tgt := 197) hx hb d_Model_row_193 (by decide) ?_
              refine va_put (D := (dC, dI)) (ci := 12) (v := .int 4) (ty := .int) (C := R_Model) (T := F_Model) (N := 153) hx hb hT i_Model t_Model t_Model_ok n_Model hown hK hP hD hS 0 rfl rfl 2 (by decide) (hT _ fl_Model_352) (fun _ h9 => h9) rfl (by decide +kernel) rfl rfl (by simp only [List.length_set, hLl]; decide) d_Model_row_197 (fun H locs hP hD hS => ?_)
              have hP : va_P (dC, dI) cls_all [oc h_this 12 ((fsL0.set 4 (.int (nI (a + k)))).set 2 (.int 4)), ic h_text k_text 4000 f_text] H := hP
              have hD : va_D A [oc h_this 12 ((fsL0.set 4 (.int (nI (a + k)))).set 2 (.int 4)), ic h_text k_text 4000 f_text] := hD
              refine lv_goto (tgt := 294) hx hb d_Model_row_200 (by decide) ?_
              have hP9 := hP.sub (ws' := [oc h_this 12 ((fsL0.set 4 (.int (nI (a + k)))).set 2 (.int 4)), ic h_text k_text 4000 f_text]) [0, 1] rfl
              have hD9 := hD.sub (ws' := [oc h_this 12 ((fsL0.set 4 (.int (nI (a + k)))).set 2 (.int 4)), ic h_text k_text 4000 f_text]) [0, 1] (by decide) rfl
              have hK9 := hK.sub (tys' := [(k_text, .int)]) [0] rfl
              have hv74 : ((fsL0.set 4 (.int (nI (a + k)))).set 2 (.int 4))[6]? = some (.long (pkd f_text a k)) := ((ls_ne (by decide)).trans ((ls_ne (by decide)).trans hL6))
              have hv75 : ((fsL0.set 4 (.int (nI (a + k)))).set 2 (.int 4))[5]? = some (.int (nmb f_text a k)) := ((ls_ne (by decide)).trans ((ls_ne (by decide)).trans hL5))
              have hv76 : ((fsL0.set 4 (.int (nI (a + k)))).set 2 (.int 4))[4]? = some (.int (nI (a + k))) := ((ls_ne (by decide)).trans (ls_eq (by simp only [List.length_set, hLl]; decide)))
              have hv77 : ((fsL0.set 4 (.int (nI (a + k)))).set 2 (.int 4))[2]? = some (.int 4) := (ls_eq (by simp only [List.length_set, hLl]; decide))
              exact W.vret hx hb hr (fun t ht hW => ⟨⟨(), rfl, trivial, ((fsL0.set 4 (.int (nI (a + k)))).set 2 (.int 4)), ⟨(by first | exact hLl | (simp only [List.length_set]; exact hLl)), (fun j n6 n5 n4 n2 => ((ls_ne n2).trans ((ls_ne n4).trans (hLf j n6 n5)))), (by first | exact hv74 | (rw [hv74]; refine congrArg some (congrArg _ ?_); first | (rw [hN]; done) | (rw [hN, ← hC]; unfold srt; all_goals (first | rw [if_pos c4] | rw [if_neg c4]); all_goals (first | rw [if_pos c47] | rw [if_neg c47]); all_goals (first | rw [if_pos c73] | rw [if_neg c73])))), (by first | exact hv75 | (rw [hv75]; refine congrArg some (congrArg _ ?_); first | (rw [hN]; done) | (rw [hN, ← hC]; unfold srt; all_goals (first | rw [if_pos c4] | rw [if_neg c4]); all_goals (first | rw [if_pos c47] | rw [if_neg c47]); all_goals (first | rw [if_pos c73] | rw [if_neg c73])))), (by first | exact hv76 | (rw [hv76]; refine congrArg some (congrArg _ ?_); first | (rw [hN]; done) | (rw [hN, ← hC]; unfold srt; all_goals (first | rw [if_pos c4] | rw [if_neg c4]); all_goals (first | rw [if_pos c47] | rw [if_neg c47]); all_goals (first | rw [if_pos c73] | rw [if_neg c73])))), (by first | exact hv77 | (rw [hv77]; refine congrArg some (congrArg _ ?_); first | (rw [hN]; done) | (rw [hN, ← hC]; unfold srt; all_goals (first | rw [if_pos c4] | rw [if_neg c4]); all_goals (first | rw [if_pos c47] | rw [if_neg c47]); all_goals (first | rw [if_pos c73] | rw [if_neg c73]))))⟩, by rw [ht]; exact hP9, va_K.moved hW.alike hK9, hD9⟩, hS.F ht⟩) hS.2.2 d_Model_row_294
            · refine lv_iload hx hb d_Model_row_167 (lv_at hl 1 rfl) ?_
              refine lv_if_le (tgt := 196) hx hb d_Model_row_169 (by decide) (fun c78 => ?_) (fun c78 => ?_)
              · have b78 : ((k)) ≤ (0) := (ni_le (by omega) (by omega)).1 c78
                refine lv_iconst (v := 0) hx hb d_Model_row_196 (by decide) ?_
                refine va_put (D := (dC, dI)) (ci := 12) (v := .int 0) (ty := .int) (C := R_Model) (T := F_Model) (N := 153) hx hb hT i_Model t_Model t_Model_ok n_Model hown hK hP hD hS 0 rfl rfl 2 (by decide) (hT _ fl_Model_352) (fun _ h9 => h9) rfl (by decide +kernel) rfl rfl (by simp only [List.length_set, hLl]; decide) d_Model_row_197 (fun H locs hP hD hS => ?_)
                have hP : va_P (dC, dI) cls_all [oc h_this 12 ((fsL0.set 4 (.int (nI (a + k)))).set 2 (.int 0)), ic h_text k_text 4000 f_text] H := hP
                have hD : va_D A [oc h_this 12 ((fsL0.set 4 (.int (nI (a + k)))).set 2 (.int 0)), ic h_text k_text 4000 f_text] := hD
                refine lv_goto (tgt := 294) hx hb d_Model_row_200 (by decide) ?_
                have hP9 := hP.sub (ws' := [oc h_this 12 ((fsL0.set 4 (.int (nI (a + k)))).set 2 (.int 0)), ic h_text k_text 4000 f_text]) [0, 1] rfl
                have hD9 := hD.sub (ws' := [oc h_this 12 ((fsL0.set 4 (.int (nI (a + k)))).set 2 (.int 0)), ic h_text k_text 4000 f_text]) [0, 1] (by decide) rfl
                have hK9 := hK.sub (tys' := [(k_text, .int)]) [0] rfl
                have hv79 : ((fsL0.set 4 (.int (nI (a + k)))).set 2 (.int 0))[6]? = some (.long (pkd f_text a k)) := ((ls_ne (by decide)).trans ((ls_ne (by decide)).trans hL6))
                have hv80 : ((fsL0.set 4 (.int (nI (a + k)))).set 2 (.int 0))[5]? = some (.int (nmb f_text a k)) := ((ls_ne (by decide)).trans ((ls_ne (by decide)).trans hL5))
                have hv81 : ((fsL0.set 4 (.int (nI (a + k)))).set 2 (.int 0))[4]? = some (.int (nI (a + k))) := ((ls_ne (by decide)).trans (ls_eq (by simp only [List.length_set, hLl]; decide)))
                have hv82 : ((fsL0.set 4 (.int (nI (a + k)))).set 2 (.int 0))[2]? = some (.int 0) := (ls_eq (by simp only [List.length_set, hLl]; decide))
                exact W.vret hx hb hr (fun t ht hW => ⟨⟨(), rfl, trivial, ((fsL0.set 4 (.int (nI (a + k)))).set 2 (.int 0)), ⟨(by first | exact hLl | (simp only [List.length_set]; exact hLl)), (fun j n6 n5 n4 n2 => ((ls_ne n2).trans ((ls_ne n4).trans (hLf j n6 n5)))), (by first | exact hv79 | (rw [hv79]; refine congrArg some (congrArg _ ?_); first | (rw [hN]; done) | (rw [hN, ← hC]; unfold srt; all_goals (first | rw [if_pos c4] | rw [if_neg c4]); all_goals (first | rw [if_pos c47] | rw [if_neg c47]); all_goals (first | rw [if_pos c73] | rw [if_neg c73]); all_goals (first | rw [if_pos c78] | rw [if_neg c78])))), (by first | exact hv80 | (rw [hv80]; refine congrArg some (congrArg _ ?_); first | (rw [hN]; done) | (rw [hN, ← hC]; unfold srt; all_goals (first | rw [if_pos c4] | rw [if_neg c4]); all_goals (first | rw [if_pos c47] | rw [if_neg c47]); all_goals (first | rw [if_pos c73] | rw [if_neg c73]); all_goals (first | rw [if_pos c78] | rw [if_neg c78])))), (by first | exact hv81 | (rw [hv81]; refine congrArg some (congrArg _ ?_); first | (rw [hN]; done) | (rw [hN, ← hC]; unfold srt; all_goals (first | rw [if_pos c4] | rw [if_neg c4]); all_goals (first | rw [if_pos c47] | rw [if_neg c47]); all_goals (first | rw [if_pos c73] | rw [if_neg c73]); all_goals (first | rw [if_pos c78] | rw [if_neg c78])))), (by first | exact hv82 | (rw [hv82]; refine congrArg some (congrArg _ ?_); first | (rw [hN]; done) | (rw [hN, ← hC]; unfold srt; all_goals (first | rw [if_pos c4] | rw [if_neg c4]); all_goals (first | rw [if_pos c47] | rw [if_neg c47]); all_goals (first | rw [if_pos c73] | rw [if_neg c73]); all_goals (first | rw [if_pos c78] | rw [if_neg c78]))))⟩, by rw [ht]; exact hP9, va_K.moved hW.alike hK9, hD9⟩, hS.F ht⟩) hS.2.2 d_Model_row_294
              · have b78 : (0) < ((k)) := (ni_le (by omega) (by omega)).2 c78
                refine lv_iload hx hb d_Model_row_172 (lv_at hl 1 rfl) ?_
                refine lv_bipush (v := 9) hx hb d_Model_row_174 (by decide) ?_
                refine lv_icmp_ge (tgt := 196) hx hb d_Model_row_176 (by decide) (fun c83 => ?_) (fun c83 => ?_)
                · have b83 : (9) ≤ ((k)) := (ni_le (by omega) (by omega)).1 c83
                  refine lv_iconst (v := 0) hx hb d_Model_row_196 (by decide) ?_
                  refine va_put (D := (dC, dI)) (ci := 12) (v := .int 0) (ty := .int) (C := R_Model) (T := F_Model) (N := 153) hx hb hT i_Model t_Model t_Model_ok n_Model hown hK hP hD hS 0 rfl rfl 2 (by decide) (hT _ fl_Model_352) (fun _ h9 => h9) rfl (by decide +kernel) rfl rfl (by simp only [List.length_set, hLl]; decide) d_Model_row_197 (fun H locs hP hD hS => ?_)
                  have hP : va_P (dC, dI) cls_all [oc h_this 12 ((fsL0.set 4 (.int (nI (a + k)))).set 2 (.int 0)), ic h_text k_text 4000 f_text] H := hP
                  have hD : va_D A [oc h_this 12 ((fsL0.set 4 (.int (nI (a + k)))).set 2 (.int 0)), ic h_text k_text 4000 f_text] := hD
                  refine lv_goto (tgt := 294) hx hb d_Model_row_200 (by decide) ?_
                  have hP9 := hP.sub (ws' := [oc h_this 12 ((fsL0.set 4 (.int (nI (a + k)))).set 2 (.int 0)), ic h_text k_text 4000 f_text]) [0, 1] rfl
                  have hD9 := hD.sub (ws' := [oc h_this 12 ((fsL0.set 4 (.int (nI (a + k)))).set 2 (.int 0)), ic h_text k_text 4000 f_text]) [0, 1] (by decide) rfl
                  have hK9 := hK.sub (tys' := [(k_text, .int)]) [0] rfl
                  have hv84 : ((fsL0.set 4 (.int (nI (a + k)))).set 2 (.int 0))[6]? = some (.long (pkd f_text a k)) := ((ls_ne (by decide)).trans ((ls_ne (by decide)).trans hL6))
                  have hv85 : ((fsL0.set 4 (.int (nI (a + k)))).set 2 (.int 0))[5]? = some (.int (nmb f_text a k)) := ((ls_ne (by decide)).trans ((ls_ne (by decide)).trans hL5))
                  have hv86 : ((fsL0.set 4 (.int (nI (a + k)))).set 2 (.int 0))[4]? = some (.int (nI (a + k))) := ((ls_ne (by decide)).trans (ls_eq (by simp only [List.length_set, hLl]; decide)))
                  have hv87 : ((fsL0.set 4 (.int (nI (a + k)))).set 2 (.int 0))[2]? = some (.int 0) := (ls_eq (by simp only [List.length_set, hLl]; decide))
                  exact W.vret hx hb hr (fun t ht hW => ⟨⟨(), rfl, trivial, ((fsL0.set 4 (.int (nI (a + k)))).set 2 (.int 0)), ⟨(by first | exact hLl | (simp only [List.length_set]; exact hLl)), (fun j n6 n5 n4 n2 => ((ls_ne n2).trans ((ls_ne n4).trans (hLf j n6 n5)))), (by first | exact hv84 | (rw [hv84]; refine congrArg some (congrArg _ ?_); first | (rw [hN]; done) | (rw [hN, ← hC]; unfold srt; all_goals (first | rw [if_pos c4] | rw [if_neg c4]); all_goals (first | rw [if_pos c47] | rw [if_neg c47]); all_goals (first | rw [if_pos c73] | rw [if_neg c73]); all_goals (first | rw [if_pos c78] | rw [if_neg c78]); all_goals (first | rw [if_pos c83] | rw [if_neg c83])))), (by first | exact hv85 | (rw [hv85]; refine congrArg some (congrArg _ ?_); first | (rw [hN]; done) | (rw [hN, ← hC]; unfold srt; all_goals (first | rw [if_pos c4] | rw [if_neg c4]); all_goals (first | rw [if_pos c47] | rw [if_neg c47]); all_goals (first | rw [if_pos c73] | rw [if_neg c73]); all_goals (first | rw [if_pos c78] | rw [if_neg c78]); all_goals (first | rw [if_pos c83] | rw [if_neg c83])))), (by first | exact hv86 | (rw [hv86]; refine congrArg some (congrArg _ ?_); first | (rw [hN]; done) | (rw [hN, ← hC]; unfold srt; all_goals (first | rw [if_pos c4] | rw [if_neg c4]); all_goals (first | rw [if_pos c47] | rw [if_neg c47]); all_goals (first | rw [if_pos c73] | rw [if_neg c73]); all_goals (first | rw [if_pos c78] | rw [if_neg c78]); all_goals (first | rw [if_pos c83] | rw [if_neg c83])))), (by first | exact hv87 | (rw [hv87]; refine congrArg some (congrArg _ ?_); first | (rw [hN]; done) | (rw [hN, ← hC]; unfold srt; all_goals (first | rw [if_pos c4] | rw [if_neg c4]); all_goals (first | rw [if_pos c47] | rw [if_neg c47]); all_goals (first | rw [if_pos c73] | rw [if_neg c73]); all_goals (first | rw [if_pos c78] | rw [if_neg c78]); all_goals (first | rw [if_pos c83] | rw [if_neg c83]))))⟩, by rw [ht]; exact hP9, va_K.moved hW.alike hK9, hD9⟩, hS.F ht⟩) hS.2.2 d_Model_row_294
                · have b83 : ((k)) < (9) := (ni_le (by omega) (by omega)).2 c83
                  refine lv_iload hx hb d_Model_row_179 (lv_at hl 2 rfl) ?_
                  refine lv_if_eq (tgt := 196) hx hb d_Model_row_181 (by decide) (fun c88 => ?_) (fun c88 => ?_)
                  · refine lv_iconst (v := 0) hx hb d_Model_row_196 (by decide) ?_
                    refine va_put (D := (dC, dI)) (ci := 12) (v := .int 0) (ty := .int) (C := R_Model) (T := F_Model) (N := 153) hx hb hT i_Model t_Model t_Model_ok n_Model hown hK hP hD hS 0 rfl rfl 2 (by decide) (hT _ fl_Model_352) (fun _ h9 => h9) rfl (by decide +kernel) rfl rfl (by simp only [List.length_set, hLl]; decide) d_Model_row_197 (fun H locs hP hD hS => ?_)
                    have hP : va_P (dC, dI) cls_all [oc h_this 12 ((fsL0.set 4 (.int (nI (a + k)))).set 2 (.int 0)), ic h_text k_text 4000 f_text] H := hP
                    have hD : va_D A [oc h_this 12 ((fsL0.set 4 (.int (nI (a + k)))).set 2 (.int 0)), ic h_text k_text 4000 f_text] := hD
                    refine lv_goto (tgt := 294) hx hb d_Model_row_200 (by decide) ?_
                    have hP9 := hP.sub (ws' := [oc h_this 12 ((fsL0.set 4 (.int (nI (a + k)))).set 2 (.int 0)), ic h_text k_text 4000 f_text]) [0, 1] rfl
                    have hD9 := hD.sub (ws' := [oc h_this 12 ((fsL0.set 4 (.int (nI (a + k)))).set 2 (.int 0)), ic h_text k_text 4000 f_text]) [0, 1] (by decide) rfl
                    have hK9 := hK.sub (tys' := [(k_text, .int)]) [0] rfl
                    have hv89 : ((fsL0.set 4 (.int (nI (a + k)))).set 2 (.int 0))[6]? = some (.long (pkd f_text a k)) := ((ls_ne (by decide)).trans ((ls_ne (by decide)).trans hL6))
                    have hv90 : ((fsL0.set 4 (.int (nI (a + k)))).set 2 (.int 0))[5]? = some (.int (nmb f_text a k)) := ((ls_ne (by decide)).trans ((ls_ne (by decide)).trans hL5))
                    have hv91 : ((fsL0.set 4 (.int (nI (a + k)))).set 2 (.int 0))[4]? = some (.int (nI (a + k))) := ((ls_ne (by decide)).trans (ls_eq (by simp only [List.length_set, hLl]; decide)))
                    have hv92 : ((fsL0.set 4 (.int (nI (a + k)))).set 2 (.int 0))[2]? = some (.int 0) := (ls_eq (by simp only [List.length_set, hLl]; decide))
                    exact W.vret hx hb hr (fun t ht hW => ⟨⟨(), rfl, trivial, ((fsL0.set 4 (.int (nI (a + k)))).set 2 (.int 0)), ⟨(by first | exact hLl | (simp only [List.length_set]; exact hLl)), (fun j n6 n5 n4 n2 => ((ls_ne n2).trans ((ls_ne n4).trans (hLf j n6 n5)))), (by first | exact hv89 | (rw [hv89]; refine congrArg some (congrArg _ ?_); first | (rw [hN]; done) | (rw [hN, ← hC]; unfold srt; all_goals (first | rw [if_pos c4] | rw [if_neg c4]); all_goals (first | rw [if_pos c47] | rw [if_neg c47]); all_goals (first | rw [if_pos c73] | rw [if_neg c73]); all_goals (first | rw [if_pos c78] | rw [if_neg c78]); all_goals (first | rw [if_pos c83] | rw [if_neg c83]); all_goals (first | rw [if_pos c88] | rw [if_neg c88])))), (by first | exact hv90 | (rw [hv90]; refine congrArg some (congrArg _ ?_); first | (rw [hN]; done) | (rw [hN, ← hC]; unfold srt; all_goals (first | rw [if_pos c4] | rw [if_neg c4]); all_goals (first | rw [if_pos c47] | rw [if_neg c47]); all_goals (first | rw [if_pos c73] | rw [if_neg c73]); all_goals (first | rw [if_pos c78] | rw [if_neg c78]); all_goals (first | rw [if_pos c83] | rw [if_neg c83]); all_goals (first | rw [if_pos c88] | rw [if_neg c88])))), (by first | exact hv91 | (rw [hv91]; refine congrArg some (congrArg _ ?_); first | (rw [hN]; done) | (rw [hN, ← hC]; unfold srt; all_goals (first | rw [if_pos c4] | rw [if_neg c4]); all_goals (first | rw [if_pos c47] | rw [if_neg c47]); all_goals (first | rw [if_pos c73] | rw [if_neg c73]); all_goals (first | rw [if_pos c78] | rw [if_neg c78]); all_goals (first | rw [if_pos c83] | rw [if_neg c83]); all_goals (first | rw [if_pos c88] | rw [if_neg c88])))), (by first | exact hv92 | (rw [hv92]; refine congrArg some (congrArg _ ?_); first | (rw [hN]; done) | (rw [hN, ← hC]; unfold srt; all_goals (first | rw [if_pos c4] | rw [if_neg c4]); all_goals (first | rw [if_pos c47] | rw [if_neg c47]); all_goals (first | rw [if_pos c73] | rw [if_neg c73]); all_goals (first | rw [if_pos c78] | rw [if_neg c78]); all_goals (first | rw [if_pos c83] | rw [if_neg c83]); all_goals (first | rw [if_pos c88] | rw [if_neg c88]))))⟩, by rw [ht]; exact hP9, va_K.moved hW.alike hK9, hD9⟩, hS.F ht⟩) hS.2.2 d_Model_row_294
                  · refine lv_iload hx hb d_Model_row_184 (lv_at hl 0 rfl) ?_
                    have hPc := hP.sub (ws' := []) [] rfl
                    have hKc := hK.sub (tys' := []) [] rfl
                    refine vp_callSi (va_Run.run (va_runS (As := [.int r3]) (rest := [.ref h_this]) ⟨hx, hb, hml, hown, hT⟩ (c_Model_isSmall l dC dI (p1 := r3) ) (va_cwS 1 hT (gS ml_Model_320 st_Model_isSmall ini_Model co_Model_isSmall) rfl rfl rfl (by decide +kernel) ⟨Nat.le_of_ble_eq_true rfl, Nat.le_of_ble_eq_true rfl⟩) ⟨fbS, fun U hU hW => ⟨rfl, by rw [hU]; exact hPc, va_K.moved hW.alike hKc⟩⟩ rfl rfl hl.1 rfl (lv_room (Nat.le_of_ble_eq_true rfl)) d_Model_row_186 ⟨Nat.le_of_ble_eq_true rfl, Nat.le_of_ble_eq_true rfl⟩)) (fun r93 hr93 => ?_)
                    refine lv_if_eq (tgt := 196) hx hb d_Model_row_189 (by decide) (fun c94 => ?_) (fun c94 => ?_)
                    · refine lv_iconst (v := 0) hx hb d_Model_row_196 (by decide) ?_
                      refine va_put (D := (dC, dI)) (ci := 12) (v := .int 0) (ty := .int) (C := R_Model) (T := F_Model) (N := 153) hx hb hT i_Model t_Model t_Model_ok n_Model hown hK hP hD hS 0 rfl rfl 2 (by decide) (hT _ fl_Model_352) (fun _ h9 => h9) rfl (by decide +kernel) rfl rfl (by simp only [List.length_set, hLl]; decide) d_Model_row_197 (fun H locs hP hD hS => ?_)
                      have hP : va_P (dC, dI) cls_all [oc h_this 12 ((fsL0.set 4 (.int (nI (a + k)))).set 2 (.int 0)), ic h_text k_text 4000 f_text] H := hP
                      have hD : va_D A [oc h_this 12 ((fsL0.set 4 (.int (nI (a + k)))).set 2 (.int 0)), ic h_text k_text 4000 f_text] := hD
                      refine lv_goto (tgt := 294) hx hb d_Model_row_200 (by decide) ?_
                      have hP9 := hP.sub (ws' := [oc h_this 12 ((fsL0.set 4 (.int (nI (a + k)))).set 2 (.int 0)), ic h_text k_text 4000 f_text]) [0, 1] rfl
                      have hD9 := hD.sub (ws' := [oc h_this 12 ((fsL0.set 4 (.int (nI (a + k)))).set 2 (.int 0)), ic h_text k_text 4000 f_text]) [0, 1] (by decide) rfl
                      have hK9 := hK.sub (tys' := [(k_text, .int)]) [0] rfl
                      have hv95 : ((fsL0.set 4 (.int (nI (a + k)))).set 2 (.int 0))[6]? = some (.long (pkd f_text a k)) := ((ls_ne (by decide)).trans ((ls_ne (by decide)).trans hL6))
                      have hv96 : ((fsL0.set 4 (.int (nI (a + k)))).set 2 (.int 0))[5]? = some (.int (nmb f_text a k)) := ((ls_ne (by decide)).trans ((ls_ne (by decide)).trans hL5))
                      have hv97 : ((fsL0.set 4 (.int (nI (a + k)))).set 2 (.int 0))[4]? = some (.int (nI (a + k))) := ((ls_ne (by decide)).trans (ls_eq (by simp only [List.length_set, hLl]; decide)))
                      have hv98 : ((fsL0.set 4 (.int (nI (a + k)))).set 2 (.int 0))[2]? = some (.int 0) := (ls_eq (by simp only [List.length_set, hLl]; decide))
                      exact W.vret hx hb hr (fun t ht hW => ⟨⟨(), rfl, trivial, ((fsL0.set 4 (.int (nI (a + k)))).set 2 (.int 0)), ⟨(by first | exact hLl | (simp only [List.length_set]; exact hLl)), (fun j n6 n5 n4 n2 => ((ls_ne n2).trans ((ls_ne n4).trans (hLf j n6 n5)))), (by first | exact hv95 | (rw [hv95]; refine congrArg some (congrArg _ ?_); first | (rw [hN]; done) | (rw [hN, ← hC]; unfold srt; all_goals (first | rw [if_pos c4] | rw [if_neg c4]); all_goals (first | rw [if_pos c47] | rw [if_neg c47]); all_goals (first | rw [if_pos c73] | rw [if_neg c73]); all_goals (first | rw [if_pos c78] | rw [if_neg c78]); all_goals (first | rw [if_pos c83] | rw [if_neg c83]); all_goals (first | rw [if_pos c88] | rw [if_neg c88]); all_goals (first | rw [if_pos (yz hr93 c94)] | rw [if_neg (nz hr93 c94)] | (rw [← hr93]; first | rw [if_pos c94] | rw [if_neg c94]))))), (by first | exact hv96 | (rw [hv96]; refine congrArg some (congrArg _ ?_); first | (rw [hN]; done) | (rw [hN, ← hC]; unfold srt; all_goals (first | rw [if_pos c4] | rw [if_neg c4]); all_goals (first | rw [if_pos c47] | rw [if_neg c47]); all_goals (first | rw [if_pos c73] | rw [if_neg c73]); all_goals (first | rw [if_pos c78] | rw [if_neg c78]); all_goals (first | rw [if_pos c83] | rw [if_neg c83]); all_goals (first | rw [if_pos c88] | rw [if_neg c88]); all_goals (first | rw [if_pos (yz hr93 c94)] | rw [if_neg (nz hr93 c94)] | (rw [← hr93]; first | rw [if_pos c94] | rw [if_neg c94]))))), (by first | exact hv97 | (rw [hv97]; refine congrArg some (congrArg _ ?_); first | (rw [hN]; done) | (rw [hN, ← hC]; unfold srt; all_goals (first | rw [if_pos c4] | rw [if_neg c4]); all_goals (first | rw [if_pos c47] | rw [if_neg c47]); all_goals (first | rw [if_pos c73] | rw [if_neg c73]); all_goals (first | rw [if_pos c78] | rw [if_neg c78]); all_goals (first | rw [if_pos c83] | rw [if_neg c83]); all_goals (first | rw [if_pos c88] | rw [if_neg c88]); all_goals (first | rw [if_pos (yz hr93 c94)] | rw [if_neg (nz hr93 c94)] | (rw [← hr93]; first | rw [if_pos c94] | rw [if_neg c94]))))), (by first | exact hv98 | (rw [hv98]; refine congrArg some (congrArg _ ?_); first | (rw [hN]; done) | (rw [hN, ← hC]; unfold srt; all_goals (first | rw [if_pos c4] | rw [if_neg c4]); all_goals (first | rw [if_pos c47] | rw [if_neg c47]); all_goals (first | rw [if_pos c73] | rw [if_neg c73]); all_goals (first | rw [if_pos c78] | rw [if_neg c78]); all_goals (first | rw [if_pos c83] | rw [if_neg c83]); all_goals (first | rw [if_pos c88] | rw [if_neg c88]); all_goals (first | rw [if_pos (yz hr93 c94)] | rw [if_neg (nz hr93 c94)] | (rw [← hr93]; first | rw [if_pos c94] | rw [if_neg c94])))))⟩, by rw [ht]; exact hP9, va_K.moved hW.alike hK9, hD9⟩, hS.F ht⟩) hS.2.2 d_Model_row_294
                    · refine lv_iconst (v := 4) hx hb d_Model_row_192 (by decide) ?_
                      refine lv_goto (tgt := 197) hx hb d_Model_row_193 (by decide) ?_
                      refine va_put (D := (dC, dI)) (ci := 12) (v := .int 4) (ty := .int) (C := R_Model) (T := F_Model) (N := 153) hx hb hT i_Model t_Model t_Model_ok n_Model hown hK hP hD hS 0 rfl rfl 2 (by decide) (hT _ fl_Model_352) (fun _ h9 => h9) rfl (by decide +kernel) rfl rfl (by simp only [List.length_set, hLl]; decide) d_Model_row_197 (fun H locs hP hD hS => ?_)
                      have hP : va_P (dC, dI) cls_all [oc h_this 12 ((fsL0.set 4 (.int (nI (a + k)))).set 2 (.int 4)), ic h_text k_text 4000 f_text] H := hP
                      have hD : va_D A [oc h_this 12 ((fsL0.set 4 (.int (nI (a + k)))).set 2 (.int 4)), ic h_text k_text 4000 f_text] := hD
                      refine lv_goto (tgt := 294) hx hb d_Model_row_200 (by decide) ?_
                      have hP9 := hP.sub (ws' := [oc h_this 12 ((fsL0.set 4 (.int (nI (a + k)))).set 2 (.int 4)), ic h_text k_text 4000 f_text]) [0, 1] rfl
                      have hD9 := hD.sub (ws' := [oc h_this 12 ((fsL0.set 4 (.int (nI (a + k)))).set 2 (.int 4)), ic h_text k_text 4000 f_text]) [0, 1] (by decide) rfl
                      have hK9 := hK.sub (tys' := [(k_text, .int)]) [0] rfl
                      have hv99 : ((fsL0.set 4 (.int (nI (a + k)))).set 2 (.int 4))[6]? = some (.long (pkd f_text a k)) := ((ls_ne (by decide)).trans ((ls_ne (by decide)).trans hL6))
                      have hv100 : ((fsL0.set 4 (.int (nI (a + k)))).set 2 (.int 4))[5]? = some (.int (nmb f_text a k)) := ((ls_ne (by decide)).trans ((ls_ne (by decide)).trans hL5))
                      have hv101 : ((fsL0.set 4 (.int (nI (a + k)))).set 2 (.int 4))[4]? = some (.int (nI (a + k))) := ((ls_ne (by decide)).trans (ls_eq (by simp only [List.length_set, hLl]; decide)))
                      have hv102 : ((fsL0.set 4 (.int (nI (a + k)))).set 2 (.int 4))[2]? = some (.int 4) := (ls_eq (by simp only [List.length_set, hLl]; decide))
                      exact W.vret hx hb hr (fun t ht hW => ⟨⟨(), rfl, trivial, ((fsL0.set 4 (.int (nI (a + k)))).set 2 (.int 4)), ⟨(by first | exact hLl | (simp only [List.length_set]; exact hLl)), (fun j n6 n5 n4 n2 => ((ls_ne n2).trans ((ls_ne n4).trans (hLf j n6 n5)))), (by first | exact hv99 | (rw [hv99]; refine congrArg some (congrArg _ ?_); first | (rw [hN]; done) | (rw [hN, ← hC]; unfold srt; all_goals (first | rw [if_pos c4] | rw [if_neg c4]); all_goals (first | rw [if_pos c47] | rw [if_neg c47]); all_goals (first | rw [if_pos c73] | rw [if_neg c73]); all_goals (first | rw [if_pos c78] | rw [if_neg c78]); all_goals (first | rw [if_pos c83] | rw [if_neg c83]); all_goals (first | rw [if_pos c88] | rw [if_neg c88]); all_goals (first | rw [if_pos (yz hr93 c94)] | rw [if_neg (nz hr93 c94)] | (rw [← hr93]; first | rw [if_pos c94] | rw [if_neg c94]))))), (by first | exact hv100 | (rw [hv100]; refine congrArg some (congrArg _ ?_); first | (rw [hN]; done) | (rw [hN, ← hC]; unfold srt; all_goals (first | rw [if_pos c4] | rw [if_neg c4]); all_goals (first | rw [if_pos c47] | rw [if_neg c47]); all_goals (first | rw [if_pos c73] | rw [if_neg c73]); all_goals (first | rw [if_pos c78] | rw [if_neg c78]); all_goals (first | rw [if_pos c83] | rw [if_neg c83]); all_goals (first | rw [if_pos c88] | rw [if_neg c88]); all_goals (first | rw [if_pos (yz hr93 c94)] | rw [if_neg (nz hr93 c94)] | (rw [← hr93]; first | rw [if_pos c94] | rw [if_neg c94]))))), (by first | exact hv101 | (rw [hv101]; refine congrArg some (congrArg _ ?_); first | (rw [hN]; done) | (rw [hN, ← hC]; unfold srt; all_goals (first | rw [if_pos c4] | rw [if_neg c4]); all_goals (first | rw [if_pos c47] | rw [if_neg c47]); all_goals (first | rw [if_pos c73] | rw [if_neg c73]); all_goals (first | rw [if_pos c78] | rw [if_neg c78]); all_goals (first | rw [if_pos c83] | rw [if_neg c83]); all_goals (first | rw [if_pos c88] | rw [if_neg c88]); all_goals (first | rw [if_pos (yz hr93 c94)] | rw [if_neg (nz hr93 c94)] | (rw [← hr93]; first | rw [if_pos c94] | rw [if_neg c94]))))), (by first | exact hv102 | (rw [hv102]; refine congrArg some (congrArg _ ?_); first | (rw [hN]; done) | (rw [hN, ← hC]; unfold srt; all_goals (first | rw [if_pos c4] | rw [if_neg c4]); all_goals (first | rw [if_pos c47] | rw [if_neg c47]); all_goals (first | rw [if_pos c73] | rw [if_neg c73]); all_goals (first | rw [if_pos c78] | rw [if_neg c78]); all_goals (first | rw [if_pos c83] | rw [if_neg c83]); all_goals (first | rw [if_pos c88] | rw [if_neg c88]); all_goals (first | rw [if_pos (yz hr93 c94)] | rw [if_neg (nz hr93 c94)] | (rw [← hr93]; first | rw [if_pos c94] | rw [if_neg c94])))))⟩, by rw [ht]; exact hP9, va_K.moved hW.alike hK9, hD9⟩, hS.F ht⟩) hS.2.2 d_Model_row_294
      · have b1 : ((a + k)) < (tz) := (ni_le (by omega) (by omega)).2 c1
        refine lv_aload_n hx hb d_Model_row_26 rfl (lv_at hl 3 rfl) ?_
        refine va_get (D := (dC, dI)) (ci := 12) (v := .ref h_text) (C := R_Model) (T := F_Model) (N := 153) hx hb hT i_Model hown hK hP 0 rfl rfl 0 (by decide) (hT _ fl_Model_7) (fun _ h9 => h9) ((hLf 0 (by decide) (by decide)).trans g_this_text) d_Model_row_27 ?_
        refine lv_iload_n hx hb d_Model_row_30 rfl (lv_at hl 2 rfl) ?_
        refine va_iald hx hb hK hP 1 0 rfl rfl (vp_in_nI (by omega) (by decide)) d_Model_row_31 ?_
        refine lv_topi (fun x103 e103 => ?_)
        obtain rfl : x103 = f_text (a + k) := e103.trans (congrArg f_text (nI_clamp (by omega)))
        have hPc := hP.sub (ws' := []) [] rfl
        have hKc := hK.sub (tys' := []) [] rfl
        refine vp_callSi (va_Run.run (va_runS (As := [.int (f_text (a + k))]) (rest := []) ⟨hx, hb, hml, hown, hT⟩ (c_Model_isLetter l dC dI (p1 := (f_text (a + k))) ) (va_cwS 1 hT (gS ml_Model_355 st_Model_isLetter ini_Model co_Model_isLetter) rfl rfl rfl (by decide +kernel) ⟨Nat.le_of_ble_eq_true rfl, Nat.le_of_ble_eq_true rfl⟩) ⟨fbS, fun U hU hW => ⟨rfl, by rw [hU]; exact hPc, va_K.moved hW.alike hKc⟩⟩ rfl rfl hl.1 rfl (lv_room (Nat.le_of_ble_eq_true rfl)) d_Model_row_32 ⟨Nat.le_of_ble_eq_true rfl, Nat.le_of_ble_eq_true rfl⟩)) (fun r104 hr104 => ?_)
        refine lv_if_eq (tgt := 132) hx hb d_Model_row_35 (by decide) (fun c105 => ?_) (fun c105 => ?_)
        · have hN : (rl f_text a (tz - a)) = k := he.trans (by rw [rl_n (nz hr104 c105)]; rfl)
          refine lv_aload_n hx hb d_Model_row_132 rfl (lv_at hl 3 rfl) ?_
          refine lv_iload_n hx hb d_Model_row_133 rfl (lv_at hl 2 rfl) ?_
          refine va_put (D := (dC, dI)) (ci := 12) (v := .int (nI (a + k))) (ty := .int) (C := R_Model) (T := F_Model) (N := 153) hx hb hT i_Model t_Model t_Model_ok n_Model hown hK hP hD hS 0 rfl rfl 4 (by decide) (hT _ fl_Model_342) (fun _ h9 => h9) rfl (by decide +kernel) rfl rfl (by simp only [List.length_set, hLl]; decide) d_Model_row_134 (fun H locs hP hD hS => ?_)
          have hP : va_P (dC, dI) cls_all [oc h_this 12 (fsL0.set 4 (.int (nI (a + k)))), ic h_text k_text 4000 f_text] H := hP
          have hD : va_D A [oc h_this 12 (fsL0.set 4 (.int (nI (a + k)))), ic h_text k_text 4000 f_text] := hD
          refine lv_iload_n hx hb d_Model_row_137 rfl (lv_at hl 2 rfl) ?_
          refine lv_iload_n hx hb d_Model_row_138 rfl (lv_at hl 4 rfl) ?_
          refine lv_isub hx hb d_Model_row_139 ?_
          refine lv_topi (fun x106 e106 => ?_)
          obtain rfl : x106 = nI ((a + k) - a) := e106.trans (pk_sub (a := (a + k)) (b := a) (by omega))
          rw [Nat.add_sub_cancel_left]
          refine lv_istore (lv' := [(6, .int (nI (k))), (5, .int (sml f_text a k)), (4, .int (dgs f_text a k)), (3, .int (nI (a + k))), (0, .ref h_this), (1, .int (nI a)), (2, .int p2)]) hx hb d_Model_row_140 hl (by decide) rfl (fun ls hl => ?_)
          refine lv_aload_n hx hb d_Model_row_142 rfl (lv_at hl 4 rfl) ?_
          refine lv_iload_n hx hb d_Model_row_143 rfl (lv_at hl 5 rfl) ?_
          have hPc := hP.sub (ws' := [oc h_this 12 (fsL0.set 4 (.int (nI (a + k)))), ic h_text k_text 4000 f_text]) [0, 1] rfl
          have hKc := hK.sub (tys' := [(k_text, .int)]) [0] rfl
          refine vp_callSi (va_Run.run (va_runV (As := [.int (nI a)]) (rest := []) ⟨hx, hb, hml, hown, hT⟩ (c_Model_see l dC dI (h_this := h_this) (h_text := h_text) (fs_this := (fsL0.set 4 (.int (nI (a + k))))) (v_this_size := (nI tz)) (k_text := k_text) (f_text := f_text) (p1 := (nI a)) (len_this := (by first | exact hLl | (simp only [List.length_set]; exact hLl))) (g_this_size := ((ls_ne (by decide)).trans ((hLf 1 (by decide) (by decide)).trans g_this_size))) (g_this_text := ((ls_ne (by decide)).trans ((hLf 0 (by decide) (by decide)).trans g_this_text))) (h0 := (nI_pos' (by omega))) (hs := (nI_le (b := 4000) (by omega) (by decide)))) (cwV 1 hT (gV ml_Model_345 im_Model_see_I se_Model_see_I ini_Model co_Model_see_I) rfl rfl rfl (by decide +kernel) ⟨Nat.le_of_ble_eq_true rfl, Nat.le_of_ble_eq_true rfl⟩) ⟨fbS, va_recv hKc hPc (ci := 12) (q0 := 0) rfl rfl, fun U hU hW => ⟨rfl, by rw [hU]; exact hPc, va_K.moved hW.alike hKc⟩⟩ rfl rfl hl.1 rfl (lv_room (Nat.le_of_ble_eq_true rfl)) d_Model_row_144 ⟨Nat.le_of_ble_eq_true rfl, Nat.le_of_ble_eq_true rfl⟩)) (fun r107 hr107 => ?_)
          have hC : r107 = (if nI a < nI tz then f_text a else -1) := hr107.trans (by rw [nI_clamp (by omega)])
          refine lv_istore (lv' := [(7, .int r107), (6, .int (nI (k))), (5, .int (sml f_text a k)), (4, .int (dgs f_text a k)), (3, .int (nI (a + k))), (0, .ref h_this), (1, .int (nI a)), (2, .int p2)]) hx hb d_Model_row_147 hl (by decide) rfl (fun ls hl => ?_)
          refine lv_iload_n hx hb d_Model_row_149 rfl (lv_at hl 7 rfl) ?_
          refine lv_if_eq (tgt := 203) hx hb d_Model_row_150 (by decide) (fun c108 => ?_) (fun c108 => ?_)
          · refine lv_iload hx hb d_Model_row_203 (lv_at hl 3 rfl) ?_
            refine lv_if_eq (tgt := 227) hx hb d_Model_row_205 (by decide) (fun c109 => ?_) (fun c109 => ?_)
            · refine lv_iload hx hb d_Model_row_227 (lv_at hl 1 rfl) ?_
              refine lv_bipush (v := 8) hx hb d_Model_row_229 (by decide) ?_
              refine lv_icmp_gt (tgt := 242) hx hb d_Model_row_231 (by decide) (fun c110 => ?_) (fun c110 => ?_)
              · have b110 : (8) < ((k)) := (ni_lt (by omega) (by omega) ).1 c110
                refine lv_aload_n hx hb d_Model_row_242 rfl (lv_at hl 5 rfl) ?_
                refine lv_iconst (v := 0) hx hb d_Model_row_243 (by decide) ?_
                refine va_put (D := (dC, dI)) (ci := 12) (v := .int 0) (ty := .int) (C := R_Model) (T := F_Model) (N := 153) hx hb hT i_Model t_Model t_Model_ok n_Model hown hK hP hD hS 0 rfl rfl 2 (by decide) (hT _ fl_Model_352) (fun _ h9 => h9) rfl (by decide +kernel) rfl rfl (by simp only [List.length_set, hLl]; decide) d_Model_row_244 (fun H locs hP hD hS => ?_)
                have hP : va_P (dC, dI) cls_all [oc h_this 12 ((fsL0.set 4 (.int (nI (a + k)))).set 2 (.int 0)), ic h_text k_text 4000 f_text] H := hP
                have hD : va_D A [oc h_this 12 ((fsL0.set 4 (.int (nI (a + k)))).set 2 (.int 0)), ic h_text k_text 4000 f_text] := hD
                refine lv_goto (tgt := 294) hx hb d_Model_row_247 (by decide) ?_
                have hP9 := hP.sub (ws' := [oc h_this 12 ((fsL0.set 4 (.int (nI (a + k)))).set 2 (.int 0)), ic h_text k_text 4000 f_text]) [0, 1] rfl
                have hD9 := hD.sub (ws' := [oc h_this 12 ((fsL0.set 4 (.int (nI (a + k)))).set 2 (.int 0)), ic h_text k_text 4000 f_text]) [0, 1] (by decide) rfl
                have hK9 := hK.sub (tys' := [(k_text, .int)]) [0] rfl
                have hv111 : ((fsL0.set 4 (.int (nI (a + k)))).set 2 (.int 0))[6]? = some (.long (pkd f_text a k)) := ((ls_ne (by decide)).trans ((ls_ne (by decide)).trans hL6))
                have hv112 : ((fsL0.set 4 (.int (nI (a + k)))).set 2 (.int 0))[5]? = some (.int (nmb f_text a k)) := ((ls_ne (by decide)).trans ((ls_ne (by decide)).trans hL5))
                have hv113 : ((fsL0.set 4 (.int (nI (a + k)))).set 2 (.int 0))[4]? = some (.int (nI (a + k))) := ((ls_ne (by decide)).trans (ls_eq (by simp only [List.length_set, hLl]; decide)))
                have hv114 : ((fsL0.set 4 (.int (nI (a + k)))).set 2 (.int 0))[2]? = some (.int 0) := (ls_eq (by simp only [List.length_set, hLl]; decide))
                exact W.vret hx hb hr (fun t ht hW => ⟨⟨(), rfl, trivial, ((fsL0.set 4 (.int (nI (a + k)))).set 2 (.int 0)), ⟨(by first | exact hLl | (simp only [List.length_set]; exact hLl)), (fun j n6 n5 n4 n2 => ((ls_ne n2).trans ((ls_ne n4).trans (hLf j n6 n5)))), (by first | exact hv111 | (rw [hv111]; refine congrArg some (congrArg _ ?_); first | (rw [hN]; done) | (rw [hN, ← hC]; unfold srt; all_goals (first | rw [if_pos c108] | rw [if_neg c108]); all_goals (first | rw [if_pos c109] | rw [if_neg c109]); all_goals (first | rw [if_pos c110] | rw [if_neg c110])))), (by first | exact hv112 | (rw [hv112]; refine congrArg some (congrArg _ ?_); first | (rw [hN]; done) | (rw [hN, ← hC]; unfold srt; all_goals (first | rw [if_pos c108] | rw [if_neg c108]); all_goals (first | rw [if_pos c109] | rw [if_neg c109]); all_goals (first | rw [if_pos c110] | rw [if_neg c110])))), (by first | exact hv113 | (rw [hv113]; refine congrArg some (congrArg _ ?_); first | (rw [hN]; done) | (rw [hN, ← hC]; unfold srt; all_goals (first | rw [if_pos c108] | rw [if_neg c108]); all_goals (first | rw [if_pos c109] | rw [if_neg c109]); all_goals (first | rw [if_pos c110] | rw [if_neg c110])))), (by first | exact hv114 | (rw [hv114]; refine congrArg some (congrArg _ ?_); first | (rw [hN]; done) | (rw [hN, ← hC]; unfold srt; all_goals (first | rw [if_pos c108] | rw [if_neg c108]); all_goals (first | rw [if_pos c109] | rw [if_neg c109]); all_goals (first | rw [if_pos c110] | rw [if_neg c110]))))⟩, by rw [ht]; exact hP9, va_K.moved hW.alike hK9, hD9⟩, hS.F ht⟩) hS.2.2 d_Model_row_294
              · have b110 : ((k)) ≤ (8) := (ni_lt (by omega) (by omega) ).2 c110
                refine lv_iload hx hb d_Model_row_234 (lv_at hl 0 rfl) ?_
                have hPc := hP.sub (ws' := []) [] rfl
                have hKc := hK.sub (tys' := []) [] rfl
                refine vp_callSi (va_Run.run (va_runS (As := [.int r107]) (rest := []) ⟨hx, hb, hml, hown, hT⟩ (c_Model_isDigit l dC dI (p1 := r107) ) (va_cwS 1 hT (gS ml_Model_327 st_Model_isDigit ini_Model co_Model_isDigit) rfl rfl rfl (by decide +kernel) ⟨Nat.le_of_ble_eq_true rfl, Nat.le_of_ble_eq_true rfl⟩) ⟨fbS, fun U hU hW => ⟨rfl, by rw [hU]; exact hPc, va_K.moved hW.alike hKc⟩⟩ rfl rfl hl.1 rfl (lv_room (Nat.le_of_ble_eq_true rfl)) d_Model_row_236 ⟨Nat.le_of_ble_eq_true rfl, Nat.le_of_ble_eq_true rfl⟩)) (fun r115 hr115 => ?_)
                refine lv_if_eq (tgt := 250) hx hb d_Model_row_239 (by decide) (fun c116 => ?_) (fun c116 => ?_)
                · refine lv_iload hx hb d_Model_row_250 (lv_at hl 0 rfl) ?_
                  have hPc := hP.sub (ws' := []) [] rfl
                  have hKc := hK.sub (tys' := []) [] rfl
                  refine vp_callSi (va_Run.run (va_runS (As := [.int r107]) (rest := []) ⟨hx, hb, hml, hown, hT⟩ (c_Model_isGreat l dC dI (p1 := r107) ) (va_cwS 1 hT (gS ml_Model_324 st_Model_isGreat ini_Model co_Model_isGreat) rfl rfl rfl (by decide +kernel) ⟨Nat.le_of_ble_eq_true rfl, Nat.le_of_ble_eq_true rfl⟩) ⟨fbS, fun U hU hW => ⟨rfl, by rw [hU]; exact hPc, va_K.moved hW.alike hKc⟩⟩ rfl rfl hl.1 rfl (lv_room (Nat.le_of_ble_eq_true rfl)) d_Model_row_252 ⟨Nat.le_of_ble_eq_true rfl, Nat.le_of_ble_eq_true rfl⟩)) (fun r117 hr117 => ?_)
                  refine lv_if_eq (tgt := 266) hx hb d_Model_row_255 (by decide) (fun c118 => ?_) (fun c118 => ?_)
                  · refine lv_aload_n hx hb d_Model_row_266 rfl (lv_at hl 5 rfl) ?_
                    refine lv_iload hx hb d_Model_row_267 (lv_at hl 2 rfl) ?_
                    refine lv_if_ne (tgt := 276) hx hb d_Model_row_269 (by decide) (fun c119 => ?_) (fun c119 => ?_)
                    · refine lv_aload_n hx hb d_Model_row_276 rfl (lv_at hl 5 rfl) ?_
                      refine va_get (D := (dC, dI)) (ci := 12) (v := .long (pkd f_text a k)) (C := R_Model) (T := F_Model) (N := 153) hx hb hT i_Model hown hK hP 0 rfl rfl 6 (by decide) (hT _ fl_Model_365) (fun _ h9 => h9) ((ls_ne (by decide)).trans hL6) d_Model_row_277 ?_
                      have hPc := hP.sub (ws' := []) [] rfl
                      have hKc := hK.sub (tys' := []) [] rfl
                      refine vp_callSi (va_Run.run (va_runS (As := [.long (pkd f_text a k)]) (rest := [.ref h_this]) ⟨hx, hb, hml, hown, hT⟩ (c_Model_isKept l dC dI (ad := ad) (av := av) (p1 := (pkd f_text a k)) ) (va_cwS 1 hT (gS ml_Model_372 st_Model_isKept ini_Model co_Model_isKept) rfl rfl rfl (by decide +kernel) ⟨Nat.le_of_ble_eq_true rfl, Nat.le_of_ble_eq_true rfl⟩) ⟨fbSe, fun U hU hW => ⟨rfl, by rw [hU]; exact hPc, va_K.moved hW.alike hKc, env0.hand henv hS hU hW (fun q h => h.elim)⟩⟩ rfl rfl hl.1 rfl (lv_room (Nat.le_of_ble_eq_true rfl)) d_Model_row_280 ⟨Nat.le_of_ble_eq_true rfl, Nat.le_of_ble_eq_true rfl⟩)) (fun r120 hr120 => ?_)
                      refine lv_if_eq (tgt := 290) hx hb d_Model_row_283 (by decide) (fun c121 => ?_) (fun c121 => ?_)
                      · refine lv_iconst (v := 1) hx hb d_Model_row_290 (by decide) ?_
                        refine va_put (D := (dC, dI)) (ci := 12) (v := .int 1) (ty := .int) (C := R_Model) (T := F_Model) (N := 153) hx hb hT i_Model t_Model t_Model_ok n_Model hown hK hP hD hS 0 rfl rfl 2 (by decide) (hT _ fl_Model_352) (fun _ h9 => h9) rfl (by decide +kernel) rfl rfl (by simp only [List.length_set, hLl]; decide) d_Model_row_291 (fun H locs hP hD hS => ?_)
                        have hP : va_P (dC, dI) cls_all [oc h_this 12 ((fsL0.set 4 (.int (nI (a + k)))).set 2 (.int 1)), ic h_text k_text 4000 f_text] H := hP
                        have hD : va_D A [oc h_this 12 ((fsL0.set 4 (.int (nI (a + k)))).set 2 (.int 1)), ic h_text k_text 4000 f_text] := hD
                        have hP9 := hP.sub (ws' := [oc h_this 12 ((fsL0.set 4 (.int (nI (a + k)))).set 2 (.int 1)), ic h_text k_text 4000 f_text]) [0, 1] rfl
                        have hD9 := hD.sub (ws' := [oc h_this 12 ((fsL0.set 4 (.int (nI (a + k)))).set 2 (.int 1)), ic h_text k_text 4000 f_text]) [0, 1] (by decide) rfl
                        have hK9 := hK.sub (tys' := [(k_text, .int)]) [0] rfl
                        have hv122 : ((fsL0.set 4 (.int (nI (a + k)))).set 2 (.int 1))[6]? = some (.long (pkd f_text a k)) := ((ls_ne (by decide)).trans ((ls_ne (by decide)).trans hL6))
                        have hv123 : ((fsL0.set 4 (.int (nI (a + k)))).set 2 (.int 1))[5]? = some (.int (nmb f_text a k)) := ((ls_ne (by decide)).trans ((ls_ne (by decide)).trans hL5))
                        have hv124 : ((fsL0.set 4 (.int (nI (a + k)))).set 2 (.int 1))[4]? = some (.int (nI (a + k))) := ((ls_ne (by decide)).trans (ls_eq (by simp only [List.length_set, hLl]; decide)))
                        have hv125 : ((fsL0.set 4 (.int (nI (a + k)))).set 2 (.int 1))[2]? = some (.int 1) := (ls_eq (by simp only [List.length_set, hLl]; decide))
                        exact W.vret hx hb hr (fun t ht hW => ⟨⟨(), rfl, trivial, ((fsL0.set 4 (.int (nI (a + k)))).set 2 (.int 1)), ⟨(by first | exact hLl | (simp only [List.length_set]; exact hLl)), (fun j n6 n5 n4 n2 => ((ls_ne n2).trans ((ls_ne n4).trans (hLf j n6 n5)))), (by first | exact hv122 | (rw [hv122]; refine congrArg some (congrArg _ ?_); first | (rw [hN]; done) | (rw [hN, ← hC]; unfold srt; all_goals (first | rw [if_pos c108] | rw [if_neg c108]); all_goals (first | rw [if_pos c109] | rw [if_neg c109]); all_goals (first | rw [if_pos c110] | rw [if_neg c110]); all_goals (first | rw [if_pos (yz hr115 c116)] | rw [if_neg (nz hr115 c116)] | (rw [← hr115]; first | rw [if_pos c116] | rw [if_neg c116])); all_goals (first | rw [if_pos (yz hr117 c118)] | rw [if_neg (nz hr117 c118)] | (rw [← hr117]; first | rw [if_pos c118] | rw [if_neg c118])); all_goals (first | rw [if_pos c119] | rw [if_neg c119]); all_goals (first | rw [if_pos (yz hr120 c121)] | rw [if_neg (nz hr120 c121)] | (rw [← hr120]; first | rw [if_pos c121] | rw [if_neg c121]))))), (by first | exact hv123 | (rw [hv123]; refine congrArg some (congrArg _ ?_); first | (rw [hN]; done) | (rw [hN, ← hC]; unfold srt; all_goals (first | rw [if_pos c108] | rw [if_neg c108]); all_goals (first | rw [if_pos c109] | rw [if_neg c109]); all_goals (first | rw [if_pos c110] | rw [if_neg c110]); all_goals (first | rw [if_pos (yz hr115 c116)] | rw [if_neg (nz hr115 c116)] | (rw [← hr115]; first | rw [if_pos c116] | rw [if_neg c116])); all_goals (first | rw [if_pos (yz hr117 c118)] | rw [if_neg (nz hr117 c118)] | (rw [← hr117]; first | rw [if_pos c118] | rw [if_neg c118])); all_goals (first | rw [if_pos c119] | rw [if_neg c119]); all_goals (first | rw [if_pos (yz hr120 c121)] | rw [if_neg (nz hr120 c121)] | (rw [← hr120]; first | rw [if_pos c121] | rw [if_neg c121]))))), (by first | exact hv124 | (rw [hv124]; refine congrArg some (congrArg _ ?_); first | (rw [hN]; done) | (rw [hN, ← hC]; unfold srt; all_goals (first | rw [if_pos c108] | rw [if_neg c108]); all_goals (first | rw [if_pos c109] | rw [if_neg c109]); all_goals (first | rw [if_pos c110] | rw [if_neg c110]); all_goals (first | rw [if_pos (yz hr115 c116)] | rw [if_neg (nz hr115 c116)] | (rw [← hr115]; first | rw [if_pos c116] | rw [if_neg c116])); all_goals (first | rw [if_pos (yz hr117 c118)] | rw [if_neg (nz hr117 c118)] | (rw [← hr117]; first | rw [if_pos c118] | rw [if_neg c118])); all_goals (first | rw [if_pos c119] | rw [if_neg c119]); all_goals (first | rw [if_pos (yz hr120 c121)] | rw [if_neg (nz hr120 c121)] | (rw [← hr120]; first | rw [if_pos c121] | rw [if_neg c121]))))), (by first | exact hv125 | (rw [hv125]; refine congrArg some (congrArg _ ?_); first | (rw [hN]; done) | (rw [hN, ← hC]; unfold srt; all_goals (first | rw [if_pos c108] | rw [if_neg c108]); all_goals (first | rw [if_pos c109] | rw [if_neg c109]); all_goals (first | rw [if_pos c110] | rw [if_neg c110]); all_goals (first | rw [if_pos (yz hr115 c116)] | rw [if_neg (nz hr115 c116)] | (rw [← hr115]; first | rw [if_pos c116] | rw [if_neg c116])); all_goals (first | rw [if_pos (yz hr117 c118)] | rw [if_neg (nz hr117 c118)] | (rw [← hr117]; first | rw [if_pos c118] | rw [if_neg c118])); all_goals (first | rw [if_pos c119] | rw [if_neg c119]); all_goals (first | rw [if_pos (yz hr120 c121)] | rw [if_neg (nz hr120 c121)] | (rw [← hr120]; first | rw [if_pos c121] | rw [if_neg c121])))))⟩, by rw [ht]; exact hP9, va_K.moved hW.alike hK9, hD9⟩, hS.F ht⟩) hS.2.2 d_Model_row_294
                      · refine lv_iconst (v := 2) hx hb d_Model_row_286 (by decide) ?_
                        refine lv_goto (tgt := 291) hx hb d_Model_row_287 (by decide) ?_
                        refine va_put (D := (dC, dI)) (ci := 12) (v := .int 2) (ty := .int) (C := R_Model) (T := F_Model) (N := 153) hx hb hT i_Model t_Model t_Model_ok n_Model hown hK hP hD hS 0 rfl rfl 2 (by decide) (hT _ fl_Model_352) (fun _ h9 => h9) rfl (by decide +kernel) rfl rfl (by simp only [List.length_set, hLl]; decide) d_Model_row_291 (fun H locs hP hD hS => ?_)
                        have hP : va_P (dC, dI) cls_all [oc h_this 12 ((fsL0.set 4 (.int (nI (a + k)))).set 2 (.int 2)), ic h_text k_text 4000 f_text] H := hP
                        have hD : va_D A [oc h_this 12 ((fsL0.set 4 (.int (nI (a + k)))).set 2 (.int 2)), ic h_text k_text 4000 f_text] := hD
                        have hP9 := hP.sub (ws' := [oc h_this 12 ((fsL0.set 4 (.int (nI (a + k)))).set 2 (.int 2)), ic h_text k_text 4000 f_text]) [0, 1] rfl
                        have hD9 := hD.sub (ws' := [oc h_this 12 ((fsL0.set 4 (.int (nI (a + k)))).set 2 (.int 2)), ic h_text k_text 4000 f_text]) [0, 1] (by decide) rfl
                        have hK9 := hK.sub (tys' := [(k_text, .int)]) [0] rfl
                        have hv126 : ((fsL0.set 4 (.int (nI (a + k)))).set 2 (.int 2))[6]? = some (.long (pkd f_text a k)) := ((ls_ne (by decide)).trans ((ls_ne (by decide)).trans hL6))
                        have hv127 : ((fsL0.set 4 (.int (nI (a + k)))).set 2 (.int 2))[5]? = some (.int (nmb f_text a k)) := ((ls_ne (by decide)).trans ((ls_ne (by decide)).trans hL5))
                        have hv128 : ((fsL0.set 4 (.int (nI (a + k)))).set 2 (.int 2))[4]? = some (.int (nI (a + k))) := ((ls_ne (by decide)).trans (ls_eq (by simp only [List.length_set, hLl]; decide)))
                        have hv129 : ((fsL0.set 4 (.int (nI (a + k)))).set 2 (.int 2))[2]? = some (.int 2) := (ls_eq (by simp only [List.length_set, hLl]; decide))
                        exact W.vret hx hb hr (fun t ht hW => ⟨⟨(), rfl, trivial, ((fsL0.set 4 (.int (nI (a + k)))).set 2 (.int 2)), ⟨(by first | exact hLl | (simp only [List.length_set]; exact hLl)), (fun j n6 n5 n4 n2 => ((ls_ne n2).trans ((ls_ne n4).trans (hLf j n6 n5)))), (by first | exact hv126 | (rw [hv126]; refine congrArg some (congrArg _ ?_); first | (rw [hN]; done) | (rw [hN, ← hC]; unfold srt; all_goals (first | rw [if_pos c108] | rw [if_neg c108]); all_goals (first | rw [if_pos c109] | rw [if_neg c109]); all_goals (first | rw [if_pos c110] | rw [if_neg c110]); all_goals (first | rw [if_pos (yz hr115 c116)] | rw [if_neg (nz hr115 c116)] | (rw [← hr115]; first | rw [if_pos c116] | rw [if_neg c116])); all_goals (first | rw [if_pos (yz hr117 c118)] | rw [if_neg (nz hr117 c118)] | (rw [← hr117]; first | rw [if_pos c118] | rw [if_neg c118])); all_goals (first | rw [if_pos c119] | rw [if_neg c119]); all_goals (first | rw [if_pos (yz hr120 c121)] | rw [if_neg (nz hr120 c121)] | (rw [← hr120]; first | rw [if_pos c121] | rw [if_neg c121]))))), (by first | exact hv127 | (rw [hv127]; refine congrArg some (congrArg _ ?_); first | (rw [hN]; done) | (rw [hN, ← hC]; unfold srt; all_goals (first | rw [if_pos c108] | rw [if_neg c108]); all_goals (first | rw [if_pos c109] | rw [if_neg c109]); all_goals (first | rw [if_pos c110] | rw [if_neg c110]); all_goals (first | rw [if_pos (yz hr115 c116)] | rw [if_neg (nz hr115 c116)] | (rw [← hr115]; first | rw [if_pos c116] | rw [if_neg c116])); all_goals (first | rw [if_pos (yz hr117 c118)] | rw [if_neg (nz hr117 c118)] | (rw [← hr117]; first | rw [if_pos c118] | rw [if_neg c118])); all_goals (first | rw [if_pos c119] | rw [if_neg c119]); all_goals (first | rw [if_pos (yz hr120 c121)] | rw [if_neg (nz hr120 c121)] | (rw [← hr120]; first | rw [if_pos c121] | rw [if_neg c121]))))), (by first | exact hv128 | (rw [hv128]; refine congrArg some (congrArg _ ?_); first | (rw [hN]; done) | (rw [hN, ← hC]; unfold srt; all_goals (first | rw [if_pos c108] | rw [if_neg c108]); all_goals (first | rw [if_pos c109] | rw [if_neg c109]); all_goals (first | rw [if_pos c110] | rw [if_neg c110]); all_goals (first | rw [if_pos (yz hr115 c116)] | rw [if_neg (nz hr115 c116)] | (rw [← hr115]; first | rw [if_pos c116] | rw [if_neg c116])); all_goals (first | rw [if_pos (yz hr117 c118)] | rw [if_neg (nz hr117 c118)] | (rw [← hr117]; first | rw [if_pos c118] | rw [if_neg c118])); all_goals (first | rw [if_pos c119] | rw [if_neg c119]); all_goals (first | rw [if_pos (yz hr120 c121)] | rw [if_neg (nz hr120 c121)] | (rw [← hr120]; first | rw [if_pos c121] | rw [if_neg c121]))))), (by first | exact hv129 | (rw [hv129]; refine congrArg some (congrArg _ ?_); first | (rw [hN]; done) | (rw [hN, ← hC]; unfold srt; all_goals (first | rw [if_pos c108] | rw [if_neg c108]); all_goals (first | rw [if_pos c109] | rw [if_neg c109]); all_goals (first | rw [if_pos c110] | rw [if_neg c110]); all_goals (first | rw [if_pos (yz hr115 c116)] | rw [if_neg (nz hr115 c116)] | (rw [← hr115]; first | rw [if_pos c116] | rw [if_neg c116])); all_goals (first | rw [if_pos (yz hr117 c118)] | rw [if_neg (nz hr117 c118)] | (rw [← hr117]; first | rw [if_pos c118] | rw [if_neg c118])); all_goals (first | rw [if_pos c119] | rw [if_neg c119]); all_goals (first | rw [if_pos (yz hr120 c121)] | rw [if_neg (nz hr120 c121)] | (rw [← hr120]; first | rw [if_pos c121] | rw [if_neg c121])))))⟩, by rw [ht]; exact hP9, va_K.moved hW.alike hK9, hD9⟩, hS.F ht⟩) hS.2.2 d_Model_row_294
                    · refine lv_iconst (v := 0) hx hb d_Model_row_272 (by decide) ?_
                      refine lv_goto (tgt := 291) hx hb d_Model_row_273 (by decide) ?_
                      refine va_put (D := (dC, dI)) (ci := 12) (v := .int 0) (ty := .int) (C := R_Model) (T := F_Model) (N := 153) hx hb hT i_Model t_Model t_Model_ok n_Model hown hK hP hD hS 0 rfl rfl 2 (by decide) (hT _ fl_Model_352) (fun _ h9 => h9) rfl (by decide +kernel) rfl rfl (by simp only [List.length_set, hLl]; decide) d_Model_row_291 (fun H locs hP hD hS => ?_)
                      have hP : va_P (dC, dI) cls_all [oc h_this 12 ((fsL0.set 4 (.int (nI (a + k)))).set 2 (.int 0)), ic h_text k_text 4000 f_text] H := hP
                      have hD : va_D A [oc h_this 12 ((fsL0.set 4 (.int (nI (a + k)))).set 2 (.int 0)), ic h_text k_text 4000 f_text] := hD
                      have hP9 := hP.sub (ws' := [oc h_this 12 ((fsL0.set 4 (.int (nI (a + k)))).set 2 (.int 0)), ic h_text k_text 4000 f_text]) [0, 1] rfl
                      have hD9 := hD.sub (ws' := [oc h_this 12 ((fsL0.set 4 (.int (nI (a + k)))).set 2 (.int 0)), ic h_text k_text 4000 f_text]) [0, 1] (by decide) rfl
                      have hK9 := hK.sub (tys' := [(k_text, .int)]) [0] rfl
                      have hv130 : ((fsL0.set 4 (.int (nI (a + k)))).set 2 (.int 0))[6]? = some (.long (pkd f_text a k)) := ((ls_ne (by decide)).trans ((ls_ne (by decide)).trans hL6))
                      have hv131 : ((fsL0.set 4 (.int (nI (a + k)))).set 2 (.int 0))[5]? = some (.int (nmb f_text a k)) := ((ls_ne (by decide)).trans ((ls_ne (by decide)).trans hL5))
                      have hv132 : ((fsL0.set 4 (.int (nI (a + k)))).set 2 (.int 0))[4]? = some (.int (nI (a + k))) := ((ls_ne (by decide)).trans (ls_eq (by simp only [List.length_set, hLl]; decide)))
                      have hv133 : ((fsL0.set 4 (.int (nI (a + k)))).set 2 (.int 0))[2]? = some (.int 0) := (ls_eq (by simp only [List.length_set, hLl]; decide))
                      exact W.vret hx hb hr (fun t ht hW => ⟨⟨(), rfl, trivial, ((fsL0.set 4 (.int (nI (a + k)))).set 2 (.int 0)), ⟨(by first | exact hLl | (simp only [List.length_set]; exact hLl)), (fun j n6 n5 n4 n2 => ((ls_ne n2).trans ((ls_ne n4).trans (hLf j n6 n5)))), (by first | exact hv130 | (rw [hv130]; refine congrArg some (congrArg _ ?_); first | (rw [hN]; done) | (rw [hN, ← hC]; unfold srt; all_goals (first | rw [if_pos c108] | rw [if_neg c108]); all_goals (first | rw [if_pos c109] | rw [if_neg c109]); all_goals (first | rw [if_pos c110] | rw [if_neg c110]); all_goals (first | rw [if_pos (yz hr115 c116)] | rw [if_neg (nz hr115 c116)] | (rw [← hr115]; first | rw [if_pos c116] | rw [if_neg c116])); all_goals (first | rw [if_pos (yz hr117 c118)] | rw [if_neg (nz hr117 c118)] | (rw [← hr117]; first | rw [if_pos c118] | rw [if_neg c118])); all_goals (first | rw [if_pos c119] | rw [if_neg c119])))), (by first | exact hv131 | (rw [hv131]; refine congrArg some (congrArg _ ?_); first | (rw [hN]; done) | (rw [hN, ← hC]; unfold srt; all_goals (first | rw [if_pos c108] | rw [if_neg c108]); all_goals (first | rw [if_pos c109] | rw [if_neg c109]); all_goals (first | rw [if_pos c110] | rw [if_neg c110]); all_goals (first | rw [if_pos (yz hr115 c116)] | rw [if_neg (nz hr115 c116)] | (rw [← hr115]; first | rw [if_pos c116] | rw [if_neg c116])); all_goals (first | rw [if_pos (yz hr117 c118)] | rw [if_neg (nz hr117 c118)] | (rw [← hr117]; first | rw [if_pos c118] | rw [if_neg c118])); all_goals (first | rw [if_pos c119] | rw [if_neg c119])))), (by first | exact hv132 | (rw [hv132]; refine congrArg some (congrArg _ ?_); first | (rw [hN]; done) | (rw [hN, ← hC]; unfold srt; all_goals (first | rw [if_pos c108] | rw [if_neg c108]); all_goals (first | rw [if_pos c109] | rw [if_neg c109]); all_goals (first | rw [if_pos c110] | rw [if_neg c110]); all_goals (first | rw [if_pos (yz hr115 c116)] | rw [if_neg (nz hr115 c116)] | (rw [← hr115]; first | rw [if_pos c116] | rw [if_neg c116])); all_goals (first | rw [if_pos (yz hr117 c118)] | rw [if_neg (nz hr117 c118)] | (rw [← hr117]; first | rw [if_pos c118] | rw [if_neg c118])); all_goals (first | rw [if_pos c119] | rw [if_neg c119])))), (by first | exact hv133 | (rw [hv133]; refine congrArg some (congrArg _ ?_); first | (rw [hN]; done) | (rw [hN, ← hC]; unfold srt; all_goals (first | rw [if_pos c108] | rw [if_neg c108]); all_goals (first | rw [if_pos c109] | rw [if_neg c109]); all_goals (first | rw [if_pos c110] | rw [if_neg c110]); all_goals (first | rw [if_pos (yz hr115 c116)] | rw [if_neg (nz hr115 c116)] | (rw [← hr115]; first | rw [if_pos c116] | rw [if_neg c116])); all_goals (first | rw [if_pos (yz hr117 c118)] | rw [if_neg (nz hr117 c118)] | (rw [← hr117]; first | rw [if_pos c118] | rw [if_neg c118])); all_goals (first | rw [if_pos c119] | rw [if_neg c119]))))⟩, by rw [ht]; exact hP9, va_K.moved hW.alike hK9, hD9⟩, hS.F ht⟩) hS.2.2 d_Model_row_294
                  · refine lv_aload_n hx hb d_Model_row_258 rfl (lv_at hl 5 rfl) ?_
                    refine lv_iconst (v := 3) hx hb d_Model_row_259 (by decide) ?_
                    refine va_put (D := (dC, dI)) (ci := 12) (v := .int 3) (ty := .int) (C := R_Model) (T := F_Model) (N := 153) hx hb hT i_Model t_Model t_Model_ok n_Model hown hK hP hD hS 0 rfl rfl 2 (by decide) (hT _ fl_Model_352) (fun _ h9 => h9) rfl (by decide +kernel) rfl rfl (by simp only [List.length_set, hLl]; decide) d_Model_row_260 (fun H locs hP hD hS => ?_)
                    have hP : va_P (dC, dI) cls_all [oc h_this 12 ((fsL0.set 4 (.int (nI (a + k)))).set 2 (.int 3)), ic h_text k_text 4000 f_text] H := hP
                    have hD : va_D A [oc h_this 12 ((fsL0.set 4 (.int (nI (a + k)))).set 2 (.int 3)), ic h_text k_text 4000 f_text] := hD
                    refine lv_goto (tgt := 294) hx hb d_Model_row_263 (by decide) ?_
                    have hP9 := hP.sub (ws' := [oc h_this 12 ((fsL0.set 4 (.int (nI (a + k)))).set 2 (.int 3)), ic h_text k_text 4000 f_text]) [0, 1] rfl
                    have hD9 := hD.sub (ws' := [oc h_this 12 ((fsL0.set 4 (.int (nI (a + k)))).set 2 (.int 3)), ic h_text k_text 4000 f_text]) [0, 1] (by decide) rfl
                    have hK9 := hK.sub (tys' := [(k_text, .int)]) [0] rfl
                    have hv134 : ((fsL0.set 4 (.int (nI (a + k)))).set 2 (.int 3))[6]? = some (.long (pkd f_text a k)) := ((ls_ne (by decide)).trans ((ls_ne (by decide)).trans hL6))
                    have hv135 : ((fsL0.set 4 (.int (nI (a + k)))).set 2 (.int 3))[5]? = some (.int (nmb f_text a k)) := ((ls_ne (by decide)).trans ((ls_ne (by decide)).trans hL5))
                    have hv136 : ((fsL0.set 4 (.int (nI (a + k)))).set 2 (.int 3))[4]? = some (.int (nI (a + k))) := ((ls_ne (by decide)).trans (ls_eq (by simp only [List.length_set, hLl]; decide)))
                    have hv137 : ((fsL0.set 4 (.int (nI (a + k)))).set 2 (.int 3))[2]? = some (.int 3) := (ls_eq (by simp only [List.length_set, hLl]; decide))
                    exact W.vret hx hb hr (fun t ht hW => ⟨⟨(), rfl, trivial, ((fsL0.set 4 (.int (nI (a + k)))).set 2 (.int 3)), ⟨(by first | exact hLl | (simp only [List.length_set]; exact hLl)), (fun j n6 n5 n4 n2 => ((ls_ne n2).trans ((ls_ne n4).trans (hLf j n6 n5)))), (by first | exact hv134 | (rw [hv134]; refine congrArg some (congrArg _ ?_); first | (rw [hN]; done) | (rw [hN, ← hC]; unfold srt; all_goals (first | rw [if_pos c108] | rw [if_neg c108]); all_goals (first | rw [if_pos c109] | rw [if_neg c109]); all_goals (first | rw [if_pos c110] | rw [if_neg c110]); all_goals (first | rw [if_pos (yz hr115 c116)] | rw [if_neg (nz hr115 c116)] | (rw [← hr115]; first | rw [if_pos c116] | rw [if_neg c116])); all_goals (first | rw [if_pos (yz hr117 c118)] | rw [if_neg (nz hr117 c118)] | (rw [← hr117]; first | rw [if_pos c118] | rw [if_neg c118]))))), (by first | exact hv135 | (rw [hv135]; refine congrArg some (congrArg _ ?_); first | (rw [hN]; done) | (rw [hN, ← hC]; unfold srt; all_goals (first | rw [if_pos c108] | rw [if_neg c108]); all_goals (first | rw [if_pos c109] | rw [if_neg c109]); all_goals (first | rw [if_pos c110] | rw [if_neg c110]); all_goals (first | rw [if_pos (yz hr115 c116)] | rw [if_neg (nz hr115 c116)] | (rw [← hr115]; first | rw [if_pos c116] | rw [if_neg c116])); all_goals (first | rw [if_pos (yz hr117 c118)] | rw [if_neg (nz hr117 c118)] | (rw [← hr117]; first | rw [if_pos c118] | rw [if_neg c118]))))), (by first | exact hv136 | (rw [hv136]; refine congrArg some (congrArg _ ?_); first | (rw [hN]; done) | (rw [hN, ← hC]; unfold srt; all_goals (first | rw [if_pos c108] | rw [if_neg c108]); all_goals (first | rw [if_pos c109] | rw [if_neg c109]); all_goals (first | rw [if_pos c110] | rw [if_neg c110]); all_goals (first | rw [if_pos (yz hr115 c116)] | rw [if_neg (nz hr115 c116)] | (rw [← hr115]; first | rw [if_pos c116] | rw [if_neg c116])); all_goals (first | rw [if_pos (yz hr117 c118)] | rw [if_neg (nz hr117 c118)] | (rw [← hr117]; first | rw [if_pos c118] | rw [if_neg c118]))))), (by first | exact hv137 | (rw [hv137]; refine congrArg some (congrArg _ ?_); first | (rw [hN]; done) | (rw [hN, ← hC]; unfold srt; all_goals (first | rw [if_pos c108] | rw [if_neg c108]); all_goals (first | rw [if_pos c109] | rw [if_neg c109]); all_goals (first | rw [if_pos c110] | rw [if_neg c110]); all_goals (first | rw [if_pos (yz hr115 c116)] | rw [if_neg (nz hr115 c116)] | (rw [← hr115]; first | rw [if_pos c116] | rw [if_neg c116])); all_goals (first | rw [if_pos (yz hr117 c118)] | rw [if_neg (nz hr117 c118)] | (rw [← hr117]; first | rw [if_pos c118] | rw [if_neg c118])))))⟩, by rw [ht]; exact hP9, va_K.moved hW.alike hK9, hD9⟩, hS.F ht⟩) hS.2.2 d_Model_row_294
                · refine lv_aload_n hx hb d_Model_row_242 rfl (lv_at hl 5 rfl) ?_
                  refine lv_iconst (v := 0) hx hb d_Model_row_243 (by decide) ?_
                  refine va_put (D := (dC, dI)) (ci := 12) (v := .int 0) (ty := .int) (C := R_Model) (T := F_Model) (N := 153) hx hb hT i_Model t_Model t_Model_ok n_Model hown hK hP hD hS 0 rfl rfl 2 (by decide) (hT _ fl_Model_352) (fun _ h9 => h9) rfl (by decide +kernel) rfl rfl (by simp only [List.length_set, hLl]; decide) d_Model_row_244 (fun H locs hP hD hS => ?_)
                  have hP : va_P (dC, dI) cls_all [oc h_this 12 ((fsL0.set 4 (.int (nI (a + k)))).set 2 (.int 0)), ic h_text k_text 4000 f_text] H := hP
                  have hD : va_D A [oc h_this 12 ((fsL0.set 4 (.int (nI (a + k)))).set 2 (.int 0)), ic h_text k_text 4000 f_text] := hD
                  refine lv_goto (tgt := 294) hx hb d_Model_row_247 (by decide) ?_
                  have hP9 := hP.sub (ws' := [oc h_this 12 ((fsL0.set 4 (.int (nI (a + k)))).set 2 (.int 0)), ic h_text k_text 4000 f_text]) [0, 1] rfl
                  have hD9 := hD.sub (ws' := [oc h_this 12 ((fsL0.set 4 (.int (nI (a + k)))).set 2 (.int 0)), ic h_text k_text 4000 f_text]) [0, 1] (by decide) rfl
                  have hK9 := hK.sub (tys' := [(k_text, .int)]) [0] rfl
                  have hv138 : ((fsL0.set 4 (.int (nI (a + k)))).set 2 (.int 0))[6]? = some (.long (pkd f_text a k)) := ((ls_ne (by decide)).trans ((ls_ne (by decide)).trans hL6))
                  have hv139 : ((fsL0.set 4 (.int (nI (a + k)))).set 2 (.int 0))[5]? = some (.int (nmb f_text a k)) := ((ls_ne (by decide)).trans ((ls_ne (by decide)).trans hL5))
                  have hv140 : ((fsL0.set 4 (.int (nI (a + k)))).set 2 (.int 0))[4]? = some (.int (nI (a + k))) := ((ls_ne (by decide)).trans (ls_eq (by simp only [List.length_set, hLl]; decide)))
                  have hv141 : ((fsL0.set 4 (.int (nI (a + k)))).set 2 (.int 0))[2]? = some (.int 0) := (ls_eq (by simp only [List.length_set, hLl]; decide))
                  exact W.vret hx hb hr (fun t ht hW => ⟨⟨(), rfl, trivial, ((fsL0.set 4 (.int (nI (a + k)))).set 2 (.int 0)), ⟨(by first | exact hLl | (simp only [List.length_set]; exact hLl)), (fun j n6 n5 n4 n2 => ((ls_ne n2).trans ((ls_ne n4).trans (hLf j n6 n5)))), (by first | exact hv138 | (rw [hv138]; refine congrArg some (congrArg _ ?_); first | (rw [hN]; done) | (rw [hN, ← hC]; unfold srt; all_goals (first | rw [if_pos c108] | rw [if_neg c108]); all_goals (first | rw [if_pos c109] | rw [if_neg c109]); all_goals (first | rw [if_pos c110] | rw [if_neg c110]); all_goals (first | rw [if_pos (yz hr115 c116)] | rw [if_neg (nz hr115 c116)] | (rw [← hr115]; first | rw [if_pos c116] | rw [if_neg c116]))))), (by first | exact hv139 | (rw [hv139]; refine congrArg some (congrArg _ ?_); first | (rw [hN]; done) | (rw [hN, ← hC]; unfold srt; all_goals (first | rw [if_pos c108] | rw [if_neg c108]); all_goals (first | rw [if_pos c109] | rw [if_neg c109]); all_goals (first | rw [if_pos c110] | rw [if_neg c110]); all_goals (first | rw [if_pos (yz hr115 c116)] | rw [if_neg (nz hr115 c116)] | (rw [← hr115]; first | rw [if_pos c116] | rw [if_neg c116]))))), (by first | exact hv140 | (rw [hv140]; refine congrArg some (congrArg _ ?_); first | (rw [hN]; done) | (rw [hN, ← hC]; unfold srt; all_goals (first | rw [if_pos c108] | rw [if_neg c108]); all_goals (first | rw [if_pos c109] | rw [if_neg c109]); all_goals (first | rw [if_pos c110] | rw [if_neg c110]); all_goals (first | rw [if_pos (yz hr115 c116)] | rw [if_neg (nz hr115 c116)] | (rw [← hr115]; first | rw [if_pos c116] | rw [if_neg c116]))))), (by first | exact hv141 | (rw [hv141]; refine congrArg some (congrArg _ ?_); first | (rw [hN]; done) | (rw [hN, ← hC]; unfold srt; all_goals (first | rw [if_pos c108] | rw [if_neg c108]); all_goals (first | rw [if_pos c109] | rw [if_neg c109]); all_goals (first | rw [if_pos c110] | rw [if_neg c110]); all_goals (first | rw [if_pos (yz hr115 c116)] | rw [if_neg (nz hr115 c116)] | (rw [← hr115]; first | rw [if_pos c116] | rw [if_neg c116])))))⟩, by rw [ht]; exact hP9, va_K.moved hW.alike hK9, hD9⟩, hS.F ht⟩) hS.2.2 d_Model_row_294
            · refine lv_aload_n hx hb d_Model_row_208 rfl (lv_at hl 5 rfl) ?_
              refine lv_iload hx hb d_Model_row_209 (lv_at hl 1 rfl) ?_
              refine lv_bipush (v := 10) hx hb d_Model_row_211 (by decide) ?_
              refine lv_icmp_ge (tgt := 220) hx hb d_Model_row_213 (by decide) (fun c142 => ?_) (fun c142 => ?_)
              · have b142 : (10) ≤ ((k)) := (ni_le (by omega) (by omega)).1 c142
                refine lv_iconst (v := 0) hx hb d_Model_row_220 (by decide) ?_
                refine va_put (D := (dC, dI)) (ci := 12) (v := .int 0) (ty := .int) (C := R_Model) (T := F_Model) (N := 153) hx hb hT i_Model t_Model t_Model_ok n_Model hown hK hP hD hS 0 rfl rfl 2 (by decide) (hT _ fl_Model_352) (fun _ h9 => h9) rfl (by decide +kernel) rfl rfl (by simp only [List.length_set, hLl]; decide) d_Model_row_221 (fun H locs hP hD hS => ?_)
                have hP : va_P (dC, dI) cls_all [oc h_this 12 ((fsL0.set 4 (.int (nI (a + k)))).set 2 (.int 0)), ic h_text k_text 4000 f_text] H := hP
                have hD : va_D A [oc h_this 12 ((fsL0.set 4 (.int (nI (a + k)))).set 2 (.int 0)), ic h_text k_text 4000 f_text] := hD
                refine lv_goto (tgt := 294) hx hb d_Model_row_224 (by decide) ?_
                have hP9 := hP.sub (ws' := [oc h_this 12 ((fsL0.set 4 (.int (nI (a + k)))).set 2 (.int 0)), ic h_text k_text 4000 f_text]) [0, 1] rfl
                have hD9 := hD.sub (ws' := [oc h_this 12 ((fsL0.set 4 (.int (nI (a + k)))).set 2 (.int 0)), ic h_text k_text 4000 f_text]) [0, 1] (by decide) rfl
                have hK9 := hK.sub (tys' := [(k_text, .int)]) [0] rfl
                have hv143 : ((fsL0.set 4 (.int (nI (a + k)))).set 2 (.int 0))[6]? = some (.long (pkd f_text a k)) := ((ls_ne (by decide)).trans ((ls_ne (by decide)).trans hL6))
                have hv144 : ((fsL0.set 4 (.int (nI (a + k)))).set 2 (.int 0))[5]? = some (.int (nmb f_text a k)) := ((ls_ne (by decide)).trans ((ls_ne (by decide)).trans hL5))
                have hv145 : ((fsL0.set 4 (.int (nI (a + k)))).set 2 (.int 0))[4]? = some (.int (nI (a + k))) := ((ls_ne (by decide)).trans (ls_eq (by simp only [List.length_set, hLl]; decide)))
                have hv146 : ((fsL0.set 4 (.int (nI (a + k)))).set 2 (.int 0))[2]? = some (.int 0) := (ls_eq (by simp only [List.length_set, hLl]; decide))
                exact W.vret hx hb hr (fun t ht hW => ⟨⟨(), rfl, trivial, ((fsL0.set 4 (.int (nI (a + k)))).set 2 (.int 0)), ⟨(by first | exact hLl | (simp only [List.length_set]; exact hLl)), (fun j n6 n5 n4 n2 => ((ls_ne n2).trans ((ls_ne n4).trans (hLf j n6 n5)))), (by first | exact hv143 | (rw [hv143]; refine congrArg some (congrArg _ ?_); first | (rw [hN]; done) | (rw [hN, ← hC]; unfold srt; all_goals (first | rw [if_pos c108] | rw [if_neg c108]); all_goals (first | rw [if_pos c109] | rw [if_neg c109]); all_goals (first | rw [if_pos c142] | rw [if_neg c142])))), (by first | exact hv144 | (rw [hv144]; refine congrArg some (congrArg _ ?_); first | (rw [hN]; done) | (rw [hN, ← hC]; unfold srt; all_goals (first | rw [if_pos c108] | rw [if_neg c108]); all_goals (first | rw [if_pos c109] | rw [if_neg c109]); all_goals (first | rw [if_pos c142] | rw [if_neg c142])))), (by first | exact hv145 | (rw [hv145]; refine congrArg some (congrArg _ ?_); first | (rw [hN]; done) | (rw [hN, ← hC]; unfold srt; all_goals (first | rw [if_pos c108] | rw [if_neg c108]); all_goals (first | rw [if_pos c109] | rw [if_neg c109]); all_goals (first | rw [if_pos c142] | rw [if_neg c142])))), (by first | exact hv146 | (rw [hv146]; refine congrArg some (congrArg _ ?_); first | (rw [hN]; done) | (rw [hN, ← hC]; unfold srt; all_goals (first | rw [if_pos c108] | rw [if_neg c108]); all_goals (first | rw [if_pos c109] | rw [if_neg c109]); all_goals (first | rw [if_pos c142] | rw [if_neg c142]))))⟩, by rw [ht]; exact hP9, va_K.moved hW.alike hK9, hD9⟩, hS.F ht⟩) hS.2.2 d_Model_row_294
              · have b142 : ((k)) < (10) := (ni_le (by omega) (by omega)).2 c142
                refine lv_iconst (v := 5) hx hb d_Model_row_216 (by decide) ?_
                refine lv_goto (tgt := 221) hx hb d_Model_row_217 (by decide) ?_
                refine va_put (D := (dC, dI)) (ci := 12) (v := .int 5) (ty := .int) (C := R_Model) (T := F_Model) (N := 153) hx hb hT i_Model t_Model t_Model_ok n_Model hown hK hP hD hS 0 rfl rfl 2 (by decide) (hT _ fl_Model_352) (fun _ h9 => h9) rfl (by decide +kernel) rfl rfl (by simp only [List.length_set, hLl]; decide) d_Model_row_221 (fun H locs hP hD hS => ?_)
                have hP : va_P (dC, dI) cls_all [oc h_this 12 ((fsL0.set 4 (.int (nI (a + k)))).set 2 (.int 5)), ic h_text k_text 4000 f_text] H := hP
                have hD : va_D A [oc h_this 12 ((fsL0.set 4 (.int (nI (a + k)))).set 2 (.int 5)), ic h_text k_text 4000 f_text] := hD
                refine lv_goto (tgt := 294) hx hb d_Model_row_224 (by decide) ?_
                have hP9 := hP.sub (ws' := [oc h_this 12 ((fsL0.set 4 (.int (nI (a + k)))).set 2 (.int 5)), ic h_text k_text 4000 f_text]) [0, 1] rfl
                have hD9 := hD.sub (ws' := [oc h_this 12 ((fsL0.set 4 (.int (nI (a + k)))).set 2 (.int 5)), ic h_text k_text 4000 f_text]) [0, 1] (by decide) rfl
                have hK9 := hK.sub (tys' := [(k_text, .int)]) [0] rfl
                have hv147 : ((fsL0.set 4 (.int (nI (a + k)))).set 2 (.int 5))[6]? = some (.long (pkd f_text a k)) := ((ls_ne (by decide)).trans ((ls_ne (by decide)).trans hL6))
                have hv148 : ((fsL0.set 4 (.int (nI (a + k)))).set 2 (.int 5))[5]? = some (.int (nmb f_text a k)) := ((ls_ne (by decide)).trans ((ls_ne (by decide)).trans hL5))
                have hv149 : ((fsL0.set 4 (.int (nI (a + k)))).set 2 (.int 5))[4]? = some (.int (nI (a + k))) := ((ls_ne (by decide)).trans (ls_eq (by simp only [List.length_set, hLl]; decide)))
                have hv150 : ((fsL0.set 4 (.int (nI (a + k)))).set 2 (.int 5))[2]? = some (.int 5) := (ls_eq (by simp only [List.length_set, hLl]; decide))
                exact W.vret hx hb hr (fun t ht hW => ⟨⟨(), rfl, trivial, ((fsL0.set 4 (.int (nI (a + k)))).set 2 (.int 5)), ⟨(by first | exact hLl | (simp only [List.length_set]; exact hLl)), (fun j n6 n5 n4 n2 => ((ls_ne n2).trans ((ls_ne n4).trans (hLf j n6 n5)))), (by first | exact hv147 | (rw [hv147]; refine congrArg some (congrArg _ ?_); first | (rw [hN]; done) | (rw [hN, ← hC]; unfold srt; all_goals (first | rw [if_pos c108] | rw [if_neg c108]); all_goals (first | rw [if_pos c109] | rw [if_neg c109]); all_goals (first | rw [if_pos c142] | rw [if_neg c142])))), (by first | exact hv148 | (rw [hv148]; refine congrArg some (congrArg _ ?_); first | (rw [hN]; done) | (rw [hN, ← hC]; unfold srt; all_goals (first | rw [if_pos c108] | rw [if_neg c108]); all_goals (first | rw [if_pos c109] | rw [if_neg c109]); all_goals (first | rw [if_pos c142] | rw [if_neg c142])))), (by first | exact hv149 | (rw [hv149]; refine congrArg some (congrArg _ ?_); first | (rw [hN]; done) | (rw [hN, ← hC]; unfold srt; all_goals (first | rw [if_pos c108] | rw [if_neg c108]); all_goals (first | rw [if_pos c109] | rw [if_neg c109]); all_goals (first | rw [if_pos c142] | rw [if_neg c142])))), (by first | exact hv150 | (rw [hv150]; refine congrArg some (congrArg _ ?_); first | (rw [hN]; done) | (rw [hN, ← hC]; unfold srt; all_goals (first | rw [if_pos c108] | rw [if_neg c108]); all_goals (first | rw [if_pos c109] | rw [if_neg c109]); all_goals (first | rw [if_pos c142] | rw [if_neg c142]))))⟩, by rw [ht]; exact hP9, va_K.moved hW.alike hK9, hD9⟩, hS.F ht⟩) hS.2.2 d_Model_row_294
          · refine lv_aload_n hx hb d_Model_row_153 rfl (lv_at hl 5 rfl) ?_
            refine lv_iload hx hb d_Model_row_154 (lv_at hl 1 rfl) ?_
            refine lv_iconst (v := 1) hx hb d_Model_row_156 (by decide) ?_
            refine lv_icmp_ne (tgt := 167) hx hb d_Model_row_157 (by decide) (fun c151 => ?_) (fun c151 => ?_)
            · refine lv_iload hx hb d_Model_row_167 (lv_at hl 1 rfl) ?_
              refine lv_if_le (tgt := 196) hx hb d_Model_row_169 (by decide) (fun c152 => ?_) (fun c152 => ?_)
              · have b152 : ((k)) ≤ (0) := (ni_le (by omega) (by omega)).1 c152
                refine lv_iconst (v := 0) hx hb d_Model_row_196 (by decide) ?_
                refine va_put (D := (dC, dI)) (ci := 12) (v := .int 0) (ty := .int) (C := R_Model) (T := F_Model) (N := 153) hx hb hT i_Model t_Model t_Model_ok n_Model hown hK hP hD hS 0 rfl rfl 2 (by decide) (hT _ fl_Model_352) (fun _ h9 => h9) rfl (by decide +kernel) rfl rfl (by simp only [List.length_set, hLl]; decide) d_Model_row_197 (fun H locs hP hD hS => ?_)
                have hP : va_P (dC, dI) cls_all [oc h_this 12 ((fsL0.set 4 (.int (nI (a + k)))).set 2 (.int 0)), ic h_text k_text 4000 f_text] H := hP
                have hD : va_D A [oc h_this 12 ((fsL0.set 4 (.int (nI (a + k)))).set 2 (.int 0)), ic h_text k_text 4000 f_text] := hD
                refine lv_goto (tgt := 294) hx hb d_Model_row_200 (by decide) ?_
                have hP9 := hP.sub (ws' := [oc h_this 12 ((fsL0.set 4 (.int (nI (a + k)))).set 2 (.int 0)), ic h_text k_text 4000 f_text]) [0, 1] rfl
                have hD9 := hD.sub (ws' := [oc h_this 12 ((fsL0.set 4 (.int (nI (a + k)))).set 2 (.int 0)), ic h_text k_text 4000 f_text]) [0, 1] (by decide) rfl
                have hK9 := hK.sub (tys' := [(k_text, .int)]) [0] rfl
                have hv153 : ((fsL0.set 4 (.int (nI (a + k)))).set 2 (.int 0))[6]? = some (.long (pkd f_text a k)) := ((ls_ne (by decide)).trans ((ls_ne (by decide)).trans hL6))
                have hv154 : ((fsL0.set 4 (.int (nI (a + k)))).set 2 (.int 0))[5]? = some (.int (nmb f_text a k)) := ((ls_ne (by decide)).trans ((ls_ne (by decide)).trans hL5))
                have hv155 : ((fsL0.set 4 (.int (nI (a + k)))).set 2 (.int 0))[4]? = some (.int (nI (a + k))) := ((ls_ne (by decide)).trans (ls_eq (by simp only [List.length_set, hLl]; decide)))
                have hv156 : ((fsL0.set 4 (.int (nI (a + k)))).set 2 (.int 0))[2]? = some (.int 0) := (ls_eq (by simp only [List.length_set, hLl]; decide))
                exact W.vret hx hb hr (fun t ht hW => ⟨⟨(), rfl, trivial, ((fsL0.set 4 (.int (nI (a + k)))).set 2 (.int 0)), ⟨(by first | exact hLl | (simp only [List.length_set]; exact hLl)), (fun j n6 n5 n4 n2 => ((ls_ne n2).trans ((ls_ne n4).trans (hLf j n6 n5)))), (by first | exact hv153 | (rw [hv153]; refine congrArg some (congrArg _ ?_); first | (rw [hN]; done) | (rw [hN, ← hC]; unfold srt; all_goals (first | rw [if_pos c108] | rw [if_neg c108]); all_goals (first | rw [if_pos c151] | rw [if_neg c151]); all_goals (first | rw [if_pos c152] | rw [if_neg c152])))), (by first | exact hv154 | (rw [hv154]; refine congrArg some (congrArg _ ?_); first | (rw [hN]; done) | (rw [hN, ← hC]; unfold srt; all_goals (first | rw [if_pos c108] | rw [if_neg c108]); all_goals (first | rw [if_pos c151] | rw [if_neg c151]); all_goals (first | rw [if_pos c152] | rw [if_neg c152])))), (by first | exact hv155 | (rw [hv155]; refine congrArg some (congrArg _ ?_); first | (rw [hN]; done) | (rw [hN, ← hC]; unfold srt; all_goals (first | rw [if_pos c108] | rw [if_neg c108]); all_goals (first | rw [if_pos c151] | rw [if_neg c151]); all_goals (first | rw [if_pos c152] | rw [if_neg c152])))), (by first | exact hv156 | (rw [hv156]; refine congrArg some (congrArg _ ?_); first | (rw [hN]; done) | (rw [hN, ← hC]; unfold srt; all_goals (first | rw [if_pos c108] | rw [if_neg c108]); all_goals (first | rw [if_pos c151] | rw [if_neg c151]); all_goals (first | rw [if_pos c152] | rw [if_neg c152]))))⟩, by rw [ht]; exact hP9, va_K.moved hW.alike hK9, hD9⟩, hS.F ht⟩) hS.2.2 d_Model_row_294
              · have b152 : (0) < ((k)) := (ni_le (by omega) (by omega)).2 c152
                refine lv_iload hx hb d_Model_row_172 (lv_at hl 1 rfl) ?_
                refine lv_bipush (v := 9) hx hb d_Model_row_174 (by decide) ?_
                refine lv_icmp_ge (tgt := 196) hx hb d_Model_row_176 (by decide) (fun c157 => ?_) (fun c157 => ?_)
                · have b157 : (9) ≤ ((k)) := (ni_le (by omega) (by omega)).1 c157
                  refine lv_iconst (v := 0) hx hb d_Model_row_196 (by decide) ?_
                  refine va_put (D := (dC, dI)) (ci := 12) (v := .int 0) (ty := .int) (C := R_Model) (T := F_Model) (N := 153) hx hb hT i_Model t_Model t_Model_ok n_Model hown hK hP hD hS 0 rfl rfl 2 (by decide) (hT _ fl_Model_352) (fun _ h9 => h9) rfl (by decide +kernel) rfl rfl (by simp only [List.length_set, hLl]; decide) d_Model_row_197 (fun H locs hP hD hS => ?_)
                  have hP : va_P (dC, dI) cls_all [oc h_this 12 ((fsL0.set 4 (.int (nI (a + k)))).set 2 (.int 0)), ic h_text k_text 4000 f_text] H := hP
                  have hD : va_D A [oc h_this 12 ((fsL0.set 4 (.int (nI (a + k)))).set 2 (.int 0)), ic h_text k_text 4000 f_text] := hD
                  refine lv_goto (tgt := 294) hx hb d_Model_row_200 (by decide) ?_
                  have hP9 := hP.sub (ws' := [oc h_this 12 ((fsL0.set 4 (.int (nI (a + k)))).set 2 (.int 0)), ic h_text k_text 4000 f_text]) [0, 1] rfl
                  have hD9 := hD.sub (ws' := [oc h_this 12 ((fsL0.set 4 (.int (nI (a + k)))).set 2 (.int 0)), ic h_text k_text 4000 f_text]) [0, 1] (by decide) rfl
                  have hK9 := hK.sub (tys' := [(k_text, .int)]) [0] rfl
                  have hv158 : ((fsL0.set 4 (.int (nI (a + k)))).set 2 (.int 0))[6]? = some (.long (pkd f_text a k)) := ((ls_ne (by decide)).trans ((ls_ne (by decide)).trans hL6))
                  have hv159 : ((fsL0.set 4 (.int (nI (a + k)))).set 2 (.int 0))[5]? = some (.int (nmb f_text a k)) := ((ls_ne (by decide)).trans ((ls_ne (by decide)).trans hL5))
                  have hv160 : ((fsL0.set 4 (.int (nI (a + k)))).set 2 (.int 0))[4]? = some (.int (nI (a + k))) := ((ls_ne (by decide)).trans (ls_eq (by simp only [List.length_set, hLl]; decide)))
                  have hv161 : ((fsL0.set 4 (.int (nI (a + k)))).set 2 (.int 0))[2]? = some (.int 0) := (ls_eq (by simp only [List.length_set, hLl]; decide))
                  exact W.vret hx hb hr (fun t ht hW => ⟨⟨(), rfl, trivial, ((fsL0.set 4 (.int (nI (a + k)))).set 2 (.int 0)), ⟨(by first | exact hLl | (simp only [List.length_set]; exact hLl)), (fun j n6 n5 n4 n2 => ((ls_ne n2).trans ((ls_ne n4).trans (hLf j n6 n5)))), (by first | exact hv158 | (rw [hv158]; refine congrArg some (congrArg _ ?_); first | (rw [hN]; done) | (rw [hN, ← hC]; unfold srt; all_goals (first | rw [if_pos c108] | rw [if_neg c108]); all_goals (first | rw [if_pos c151] | rw [if_neg c151]); all_goals (first | rw [if_pos c152] | rw [if_neg c152]); all_goals (first | rw [if_pos c157] | rw [if_neg c157])))), (by first | exact hv159 | (rw [hv159]; refine congrArg some (congrArg _ ?_); first | (rw [hN]; done) | (rw [hN, ← hC]; unfold srt; all_goals (first | rw [if_pos c108] | rw [if_neg c108]); all_goals (first | rw [if_pos c151] | rw [if_neg c151]); all_goals (first | rw [if_pos c152] | rw [if_neg c152]); all_goals (first | rw [if_pos c157] | rw [if_neg c157])))), (by first | exact hv160 | (rw [hv160]; refine congrArg some (congrArg _ ?_); first | (rw [hN]; done) | (rw [hN, ← hC]; unfold srt; all_goals (first | rw [if_pos c108] | rw [if_neg c108]); all_goals (first | rw [if_pos c151] | rw [if_neg c151]); all_goals (first | rw [if_pos c152] | rw [if_neg c152]); all_goals (first | rw [if_pos c157] | rw [if_neg c157])))), (by first | exact hv161 | (rw [hv161]; refine congrArg some (congrArg _ ?_); first | (rw [hN]; done) | (rw [hN, ← hC]; unfold srt; all_goals (first | rw [if_pos c108] | rw [if_neg c108]); all_goals (first | rw [if_pos c151] | rw [if_neg c151]); all_goals (first | rw [if_pos c152] | rw [if_neg c152]); all_goals (first | rw [if_pos c157] | rw [if_neg c157]))))⟩, by rw [ht]; exact hP9, va_K.moved hW.alike hK9, hD9⟩, hS.F ht⟩) hS.2.2 d_Model_row_294
                · have b157 : ((k)) < (9) := (ni_le (by omega) (by omega)).2 c157
                  refine lv_iload hx hb d_Model_row_179 (lv_at hl 2 rfl) ?_
                  refine lv_if_eq (tgt := 196) hx hb d_Model_row_181 (by decide) (fun c162 => ?_) (fun c162 => ?_)
                  · refine lv_iconst (v := 0) hx hb d_Model_row_196 (by decide) ?_
                    refine va_put (D := (dC, dI)) (ci := 12) (v := .int 0) (ty := .int) (C := R_Model) (T := F_Model) (N := 153) hx hb hT i_Model t_Model t_Model_ok n_Model hown hK hP hD hS 0 rfl rfl 2 (by decide) (hT _ fl_Model_352) (fun _ h9 => h9) rfl (by decide +kernel) rfl rfl (by simp only [List.length_set, hLl]; decide) d_Model_row_197 (fun H locs hP hD hS => ?_)
                    have hP : va_P (dC, dI) cls_all [oc h_this 12 ((fsL0.set 4 (.int (nI (a + k)))).set 2 (.int 0)), ic h_text k_text 4000 f_text] H := hP
                    have hD : va_D A [oc h_this 12 ((fsL0.set 4 (.int (nI (a + k)))).set 2 (.int 0)), ic h_text k_text 4000 f_text] := hD
                    refine lv_goto (tgt := 294) hx hb d_Model_row_200 (by decide) ?_
                    have hP9 := hP.sub (ws' := [oc h_this 12 ((fsL0.set 4 (.int (nI (a + k)))).set 2 (.int 0)), ic h_text k_text 4000 f_text]) [0, 1] rfl
                    have hD9 := hD.sub (ws' := [oc h_this 12 ((fsL0.set 4 (.int (nI (a + k)))).set 2 (.int 0)), ic h_text k_text 4000 f_text]) [0, 1] (by decide) rfl
                    have hK9 := hK.sub (tys' := [(k_text, .int)]) [0] rfl
                    have hv163 : ((fsL0.set 4 (.int (nI (a + k)))).set 2 (.int 0))[6]? = some (.long (pkd f_text a k)) := ((ls_ne (by decide)).trans ((ls_ne (by decide)).trans hL6))
                    have hv164 : ((fsL0.set 4 (.int (nI (a + k)))).set 2 (.int 0))[5]? = some (.int (nmb f_text a k)) := ((ls_ne (by decide)).trans ((ls_ne (by decide)).trans hL5))
                    have hv165 : ((fsL0.set 4 (.int (nI (a + k)))).set 2 (.int 0))[4]? = some (.int (nI (a + k))) := ((ls_ne (by decide)).trans (ls_eq (by simp only [List.length_set, hLl]; decide)))
                    have hv166 : ((fsL0.set 4 (.int (nI (a + k)))).set 2 (.int 0))[2]? = some (.int 0) := (ls_eq (by simp only [List.length_set, hLl]; decide))
                    exact W.vret hx hb hr (fun t ht hW => ⟨⟨(), rfl, trivial, ((fsL0.set 4 (.int (nI (a + k)))).set 2 (.int 0)), ⟨(by first | exact hLl | (simp only [List.length_set]; exact hLl)), (fun j n6 n5 n4 n2 => ((ls_ne n2).trans ((ls_ne n4).trans (hLf j n6 n5)))), (by first | exact hv163 | (rw [hv163]; refine congrArg some (congrArg _ ?_); first | (rw [hN]; done) | (rw [hN, ← hC]; unfold srt; all_goals (first | rw [if_pos c108] | rw [if_neg c108]); all_goals (first | rw [if_pos c151] | rw [if_neg c151]); all_goals (first | rw [if_pos c152] | rw [if_neg c152]); all_goals (first | rw [if_pos c157] | rw [if_neg c157]); all_goals (first | rw [if_pos c162] | rw [if_neg c162])))), (by first | exact hv164 | (rw [hv164]; refine congrArg some (congrArg _ ?_); first | (rw [hN]; done) | (rw [hN, ← hC]; unfold srt; all_goals (first | rw [if_pos c108] | rw [if_neg c108]); all_goals (first | rw [if_pos c151] | rw [if_neg c151]); all_goals (first | rw [if_pos c152] | rw [if_neg c152]); all_goals (first | rw [if_pos c157] | rw [if_neg c157]); all_goals (first | rw [if_pos c162] | rw [if_neg c162])))), (by first | exact hv165 | (rw [hv165]; refine congrArg some (congrArg _ ?_); first | (rw [hN]; done) | (rw [hN, ← hC]; unfold srt; all_goals (first | rw [if_pos c108] | rw [if_neg c108]); all_goals (first | rw [if_pos c151] | rw [if_neg c151]); all_goals (first | rw [if_pos c152] | rw [if_neg c152]); all_goals (first | rw [if_pos c157] | rw [if_neg c157]); all_goals (first | rw [if_pos c162] | rw [if_neg c162])))), (by first | exact hv166 | (rw [hv166]; refine congrArg some (congrArg _ ?_); first | (rw [hN]; done) | (rw [hN, ← hC]; unfold srt; all_goals (first | rw [if_pos c108] | rw [if_neg c108]); all_goals (first | rw [if_pos c151] | rw [if_neg c151]); all_goals (first | rw [if_pos c152] | rw [if_neg c152]); all_goals (first | rw [if_pos c157] | rw [if_neg c157]); all_goals (first | rw [if_pos c162] | rw [if_neg c162]))))⟩, by rw [ht]; exact hP9, va_K.moved hW.alike hK9, hD9⟩, hS.F ht⟩) hS.2.2 d_Model_row_294
                  · refine lv_iload hx hb d_Model_row_184 (lv_at hl 0 rfl) ?_
                    have hPc := hP.sub (ws' := []) [] rfl
                    have hKc := hK.sub (tys' := []) [] rfl
                    refine vp_callSi (va_Run.run (va_runS (As := [.int r107]) (rest := [.ref h_this]) ⟨hx, hb, hml, hown, hT⟩ (c_Model_isSmall l dC dI (p1 := r107) ) (va_cwS 1 hT (gS ml_Model_320 st_Model_isSmall ini_Model co_Model_isSmall) rfl rfl rfl (by decide +kernel) ⟨Nat.le_of_ble_eq_true rfl, Nat.le_of_ble_eq_true rfl⟩) ⟨fbS, fun U hU hW => ⟨rfl, by rw [hU]; exact hPc, va_K.moved hW.alike hKc⟩⟩ rfl rfl hl.1 rfl (lv_room (Nat.le_of_ble_eq_true rfl)) d_Model_row_186 ⟨Nat.le_of_ble_eq_true rfl, Nat.le_of_ble_eq_true rfl⟩)) (fun r167 hr167 => ?_)
                    refine lv_if_eq (tgt := 196) hx hb d_Model_row_189 (by decide) (fun c168 => ?_) (fun c168 => ?_)
                    · refine lv_iconst (v := 0) hx hb d_Model_row_196 (by decide) ?_
                      refine va_put (D := (dC, dI)) (ci := 12) (v := .int 0) (ty := .int) (C := R_Model) (T := F_Model) (N := 153) hx hb hT i_Model t_Model t_Model_ok n_Model hown hK hP hD hS 0 rfl rfl 2 (by decide) (hT _ fl_Model_352) (fun _ h9 => h9) rfl (by decide +kernel) rfl rfl (by simp only [List.length_set, hLl]; decide) d_Model_row_197 (fun H locs hP hD hS => ?_)
                      have hP : va_P (dC, dI) cls_all [oc h_this 12 ((fsL0.set 4 (.int (nI (a + k)))).set 2 (.int 0)), ic h_text k_text 4000 f_text] H := hP
                      have hD : va_D A [oc h_this 12 ((fsL0.set 4 (.int (nI (a + k)))).set 2 (.int 0)), ic h_text k_text 4000 f_text] := hD
                      refine lv_goto (tgt := 294) hx hb d_Model_row_200 (by decide) ?_
                      have hP9 := hP.sub (ws' := [oc h_this 12 ((fsL0.set 4 (.int (nI (a + k)))).set 2 (.int 0)), ic h_text k_text 4000 f_text]) [0, 1] rfl
                      have hD9 := hD.sub (ws' := [oc h_this 12 ((fsL0.set 4 (.int (nI (a + k)))).set 2 (.int 0)), ic h_text k_text 4000 f_text]) [0, 1] (by decide) rfl
                      have hK9 := hK.sub (tys' := [(k_text, .int)]) [0] rfl
                      have hv169 : ((fsL0.set 4 (.int (nI (a + k)))).set 2 (.int 0))[6]? = some (.long (pkd f_text a k)) := ((ls_ne (by decide)).trans ((ls_ne (by decide)).trans hL6))
                      have hv170 : ((fsL0.set 4 (.int (nI (a + k)))).set 2 (.int 0))[5]? = some (.int (nmb f_text a k)) := ((ls_ne (by decide)).trans ((ls_ne (by decide)).trans hL5))
                      have hv171 : ((fsL0.set 4 (.int (nI (a + k)))).set 2 (.int 0))[4]? = some (.int (nI (a + k))) := ((ls_ne (by decide)).trans (ls_eq (by simp only [List.length_set, hLl]; decide)))
                      have hv172 : ((fsL0.set 4 (.int (nI (a + k)))).set 2 (.int 0))[2]? = some (.int 0) := (ls_eq (by simp only [List.length_set, hLl]; decide))
                      exact W.vret hx hb hr (fun t ht hW => ⟨⟨(), rfl, trivial, ((fsL0.set 4 (.int (nI (a + k)))).set 2 (.int 0)), ⟨(by first | exact hLl | (simp only [List.length_set]; exact hLl)), (fun j n6 n5 n4 n2 => ((ls_ne n2).trans ((ls_ne n4).trans (hLf j n6 n5)))), (by first | exact hv169 | (rw [hv169]; refine congrArg some (congrArg _ ?_); first | (rw [hN]; done) | (rw [hN, ← hC]; unfold srt; all_goals (first | rw [if_pos c108] | rw [if_neg c108]); all_goals (first | rw [if_pos c151] | rw [if_neg c151]); all_goals (first | rw [if_pos c152] | rw [if_neg c152]); all_goals (first | rw [if_pos c157] | rw [if_neg c157]); all_goals (first | rw [if_pos c162] | rw [if_neg c162]); all_goals (first | rw [if_pos (yz hr167 c168)] | rw [if_neg (nz hr167 c168)] | (rw [← hr167]; first | rw [if_pos c168] | rw [if_neg c168]))))), (by first | exact hv170 | (rw [hv170]; refine congrArg some (congrArg _ ?_); first | (rw [hN]; done) | (rw [hN, ← hC]; unfold srt; all_goals (first | rw [if_pos c108] | rw [if_neg c108]); all_goals (first | rw [if_pos c151] | rw [if_neg c151]); all_goals (first | rw [if_pos c152] | rw [if_neg c152]); all_goals (first | rw [if_pos c157] | rw [if_neg c157]); all_goals (first | rw [if_pos c162] | rw [if_neg c162]); all_goals (first | rw [if_pos (yz hr167 c168)] | rw [if_neg (nz hr167 c168)] | (rw [← hr167]; first | rw [if_pos c168] | rw [if_neg c168]))))), (by first | exact hv171 | (rw [hv171]; refine congrArg some (congrArg _ ?_); first | (rw [hN]; done) | (rw [hN, ← hC]; unfold srt; all_goals (first | rw [if_pos c108] | rw [if_neg c108]); all_goals (first | rw [if_pos c151] | rw [if_neg c151]); all_goals (first | rw [if_pos c152] | rw [if_neg c152]); all_goals (first | rw [if_pos c157] | rw [if_neg c157]); all_goals (first | rw [if_pos c162] | rw [if_neg c162]); all_goals (first | rw [if_pos (yz hr167 c168)] | rw [if_neg (nz hr167 c168)] | (rw [← hr167]; first | rw [if_pos c168] | rw [if_neg c168]))))), (by first | exact hv172 | (rw [hv172]; refine congrArg some (congrArg _ ?_); first | (rw [hN]; done) | (rw [hN, ← hC]; unfold srt; all_goals (first | rw [if_pos c108] | rw [if_neg c108]); all_goals (first | rw [if_pos c151] | rw [if_neg c151]); all_goals (first | rw [if_pos c152] | rw [if_neg c152]); all_goals (first | rw [if_pos c157] | rw [if_neg c157]); all_goals (first | rw [if_pos c162] | rw [if_neg c162]); all_goals (first | rw [if_pos (yz hr167 c168)] | rw [if_neg (nz hr167 c168)] | (rw [← hr167]; first | rw [if_pos c168] | rw [if_neg c168])))))⟩, by rw [ht]; exact hP9, va_K.moved hW.alike hK9, hD9⟩, hS.F ht⟩) hS.2.2 d_Model_row_294
                    · refine lv_iconst (v := 4) hx hb d_Model_row_192 (by decide) ?_
                      refine lv_goto (tgt := 197) hx hb d_Model_row_193 (by decide) ?_
                      refine va_put (D := (dC, dI)) (ci := 12) (v := .int 4) (ty := .int) (C := R_Model) (T := F_Model) (N := 153) hx hb hT i_Model t_Model t_Model_ok n_Model hown hK hP hD hS 0 rfl rfl 2 (by decide) (hT _ fl_Model_352) (fun _ h9 => h9) rfl (by decide +kernel) rfl rfl (by simp only [List.length_set, hLl]; decide) d_Model_row_197 (fun H locs hP hD hS => ?_)
                      have hP : va_P (dC, dI) cls_all [oc h_this 12 ((fsL0.set 4 (.int (nI (a + k)))).set 2 (.int 4)), ic h_text k_text 4000 f_text] H := hP
                      have hD : va_D A [oc h_this 12 ((fsL0.set 4 (.int (nI (a + k)))).set 2 (.int 4)), ic h_text k_text 4000 f_text] := hD
                      refine lv_goto (tgt := 294) hx hb d_Model_row_200 (by decide) ?_
                      have hP9 := hP.sub (ws' := [oc h_this 12 ((fsL0.set 4 (.int (nI (a + k)))).set 2 (.int 4)), ic h_text k_text 4000 f_text]) [0, 1] rfl
                      have hD9 := hD.sub (ws' := [oc h_this 12 ((fsL0.set 4 (.int (nI (a + k)))).set 2 (.int 4)), ic h_text k_text 4000 f_text]) [0, 1] (by decide) rfl
                      have hK9 := hK.sub (tys' := [(k_text, .int)]) [0] rfl
                      have hv173 : ((fsL0.set 4 (.int (nI (a + k)))).set 2 (.int 4))[6]? = some (.long (pkd f_text a k)) := ((ls_ne (by decide)).trans ((ls_ne (by decide)).trans hL6))
                      have hv174 : ((fsL0.set 4 (.int (nI (a + k)))).set 2 (.int 4))[5]? = some (.int (nmb f_text a k)) := ((ls_ne (by decide)).trans ((ls_ne (by decide)).trans hL5))
                      have hv175 : ((fsL0.set 4 (.int (nI (a + k)))).set 2 (.int 4))[4]? = some (.int (nI (a + k))) := ((ls_ne (by decide)).trans (ls_eq (by simp only [List.length_set, hLl]; decide)))
                      have hv176 : ((fsL0.set 4 (.int (nI (a + k)))).set 2 (.int 4))[2]? = some (.int 4) := (ls_eq (by simp only [List.length_set, hLl]; decide))
                      exact W.vret hx hb hr (fun t ht hW => ⟨⟨(), rfl, trivial, ((fsL0.set 4 (.int (nI (a + k)))).set 2 (.int 4)), ⟨(by first | exact hLl | (simp only [List.length_set]; exact hLl)), (fun j n6 n5 n4 n2 => ((ls_ne n2).trans ((ls_ne n4).trans (hLf j n6 n5)))), (by first | exact hv173 | (rw [hv173]; refine congrArg some (congrArg _ ?_); first | (rw [hN]; done) | (rw [hN, ← hC]; unfold srt; all_goals (first | rw [if_pos c108] | rw [if_neg c108]); all_goals (first | rw [if_pos c151] | rw [if_neg c151]); all_goals (first | rw [if_pos c152] | rw [if_neg c152]); all_goals (first | rw [if_pos c157] | rw [if_neg c157]); all_goals (first | rw [if_pos c162] | rw [if_neg c162]); all_goals (first | rw [if_pos (yz hr167 c168)] | rw [if_neg (nz hr167 c168)] | (rw [← hr167]; first | rw [if_pos c168] | rw [if_neg c168]))))), (by first | exact hv174 | (rw [hv174]; refine congrArg some (congrArg _ ?_); first | (rw [hN]; done) | (rw [hN, ← hC]; unfold srt; all_goals (first | rw [if_pos c108] | rw [if_neg c108]); all_goals (first | rw [if_pos c151] | rw [if_neg c151]); all_goals (first | rw [if_pos c152] | rw [if_neg c152]); all_goals (first | rw [if_pos c157] | rw [if_neg c157]); all_goals (first | rw [if_pos c162] | rw [if_neg c162]); all_goals (first | rw [if_pos (yz hr167 c168)] | rw [if_neg (nz hr167 c168)] | (rw [← hr167]; first | rw [if_pos c168] | rw [if_neg c168]))))), (by first | exact hv175 | (rw [hv175]; refine congrArg some (congrArg _ ?_); first | (rw [hN]; done) | (rw [hN, ← hC]; unfold srt; all_goals (first | rw [if_pos c108] | rw [if_neg c108]); all_goals (first | rw [if_pos c151] | rw [if_neg c151]); all_goals (first | rw [if_pos c152] | rw [if_neg c152]); all_goals (first | rw [if_pos c157] | rw [if_neg c157]); all_goals (first | rw [if_pos c162] | rw [if_neg c162]); all_goals (first | rw [if_pos (yz hr167 c168)] | rw [if_neg (nz hr167 c168)] | (rw [← hr167]; first | rw [if_pos c168] | rw [if_neg c168]))))), (by first | exact hv176 | (rw [hv176]; refine congrArg some (congrArg _ ?_); first | (rw [hN]; done) | (rw [hN, ← hC]; unfold srt; all_goals (first | rw [if_pos c108] | rw [if_neg c108]); all_goals (first | rw [if_pos c151] | rw [if_neg c151]); all_goals (first | rw [if_pos c152] | rw [if_neg c152]); all_goals (first | rw [if_pos c157] | rw [if_neg c157]); all_goals (first | rw [if_pos c162] | rw [if_neg c162]); all_goals (first | rw [if_pos (yz hr167 c168)] | rw [if_neg (nz hr167 c168)] | (rw [← hr167]; first | rw [if_pos c168] | rw [if_neg c168])))))⟩, by rw [ht]; exact hP9, va_K.moved hW.alike hK9, hD9⟩, hS.F ht⟩) hS.2.2 d_Model_row_294
            · refine lv_iload hx hb d_Model_row_160 (lv_at hl 0 rfl) ?_
              refine lv_bipush (v := 72) hx hb d_Model_row_162 (by decide) ?_
              refine lv_icmp_eq (tgt := 192) hx hb d_Model_row_164 (by decide) (fun c177 => ?_) (fun c177 => ?_)
              · refine lv_iconst (v := 4) hx hb d_Model_row_192 (by decide) ?_
                refine lv_goto (tgt := 197) hx hb d_Model_row_193 (by decide) ?_
                refine va_put (D := (dC, dI)) (ci := 12) (v := .int 4) (ty := .int) (C := R_Model) (T := F_Model) (N := 153) hx hb hT i_Model t_Model t_Model_ok n_Model hown hK hP hD hS 0 rfl rfl 2 (by decide) (hT _ fl_Model_352) (fun _ h9 => h9) rfl (by decide +kernel) rfl rfl (by simp only [List.length_set, hLl]; decide) d_Model_row_197 (fun H locs hP hD hS => ?_)
                have hP : va_P (dC, dI) cls_all [oc h_this 12 ((fsL0.set 4 (.int (nI (a + k)))).set 2 (.int 4)), ic h_text k_text 4000 f_text] H := hP
                have hD : va_D A [oc h_this 12 ((fsL0.set 4 (.int (nI (a + k)))).set 2 (.int 4)), ic h_text k_text 4000 f_text] := hD
                refine lv_goto (tgt := 294) hx hb d_Model_row_200 (by decide) ?_
                have hP9 := hP.sub (ws' := [oc h_this 12 ((fsL0.set 4 (.int (nI (a + k)))).set 2 (.int 4)), ic h_text k_text 4000 f_text]) [0, 1] rfl
                have hD9 := hD.sub (ws' := [oc h_this 12 ((fsL0.set 4 (.int (nI (a + k)))).set 2 (.int 4)), ic h_text k_text 4000 f_text]) [0, 1] (by decide) rfl
                have hK9 := hK.sub (tys' := [(k_text, .int)]) [0] rfl
                have hv178 : ((fsL0.set 4 (.int (nI (a + k)))).set 2 (.int 4))[6]? = some (.long (pkd f_text a k)) := ((ls_ne (by decide)).trans ((ls_ne (by decide)).trans hL6))
                have hv179 : ((fsL0.set 4 (.int (nI (a + k)))).set 2 (.int 4))[5]? = some (.int (nmb f_text a k)) := ((ls_ne (by decide)).trans ((ls_ne (by decide)).trans hL5))
                have hv180 : ((fsL0.set 4 (.int (nI (a + k)))).set 2 (.int 4))[4]? = some (.int (nI (a + k))) := ((ls_ne (by decide)).trans (ls_eq (by simp only [List.length_set, hLl]; decide)))
                have hv181 : ((fsL0.set 4 (.int (nI (a + k)))).set 2 (.int 4))[2]? = some (.int 4) := (ls_eq (by simp only [List.length_set, hLl]; decide))
                exact W.vret hx hb hr (fun t ht hW => ⟨⟨(), rfl, trivial, ((fsL0.set 4 (.int (nI (a + k)))).set 2 (.int 4)), ⟨(by first | exact hLl | (simp only [List.length_set]; exact hLl)), (fun j n6 n5 n4 n2 => ((ls_ne n2).trans ((ls_ne n4).trans (hLf j n6 n5)))), (by first | exact hv178 | (rw [hv178]; refine congrArg some (congrArg _ ?_); first | (rw [hN]; done) | (rw [hN, ← hC]; unfold srt; all_goals (first | rw [if_pos c108] | rw [if_neg c108]); all_goals (first | rw [if_pos c151] | rw [if_neg c151]); all_goals (first | rw [if_pos c177] | rw [if_neg c177])))), (by first | exact hv179 | (rw [hv179]; refine congrArg some (congrArg _ ?_); first | (rw [hN]; done) | (rw [hN, ← hC]; unfold srt; all_goals (first | rw [if_pos c108] | rw [if_neg c108]); all_goals (first | rw [if_pos c151] | rw [if_neg c151]); all_goals (first | rw [if_pos c177] | rw [if_neg c177])))), (by first | exact hv180 | (rw [hv180]; refine congrArg some (congrArg _ ?_); first | (rw [hN]; done) | (rw [hN, ← hC]; unfold srt; all_goals (first | rw [if_pos c108] | rw [if_neg c108]); all_goals (first | rw [if_pos c151] | rw [if_neg c151]); all_goals (first | rw [if_pos c177] | rw [if_neg c177])))), (by first | exact hv181 | (rw [hv181]; refine congrArg some (congrArg _ ?_); first | (rw [hN]; done) | (rw [hN, ← hC]; unfold srt; all_goals (first | rw [if_pos c108] | rw [if_neg c108]); all_goals (first | rw [if_pos c151] | rw [if_neg c151]); all_goals (first | rw [if_pos c177] | rw [if_neg c177]))))⟩, by rw [ht]; exact hP9, va_K.moved hW.alike hK9, hD9⟩, hS.F ht⟩) hS.2.2 d_Model_row_294
              · refine lv_iload hx hb d_Model_row_167 (lv_at hl 1 rfl) ?_
                refine lv_if_le (tgt := 196) hx hb d_Model_row_169 (by decide) (fun c182 => ?_) (fun c182 => ?_)
                · have b182 : ((k)) ≤ (0) := (ni_le (by omega) (by omega)).1 c182
                  refine lv_iconst (v := 0) hx hb d_Model_row_196 (by decide) ?_
                  refine va_put (D := (dC, dI)) (ci := 12) (v := .int 0) (ty := .int) (C := R_Model) (T := F_Model) (N := 153) hx hb hT i_Model t_Model t_Model_ok n_Model hown hK hP hD hS 0 rfl rfl 2 (by decide) (hT _ fl_Model_352) (fun _ h9 => h9) rfl (by decide +kernel) rfl rfl (by simp only [List.length_set, hLl]; decide) d_Model_row_197 (fun H locs hP hD hS => ?_)
                  have hP : va_P (dC, dI) cls_all [oc h_this 12 ((fsL0.set 4 (.int (nI (a + k)))).set 2 (.int 0)), ic h_text k_text 4000 f_text] H := hP
                  have hD : va_D A [oc h_this 12 ((fsL0.set 4 (.int (nI (a + k)))).set 2 (.int 0)), ic h_text k_text 4000 f_text] := hD
                  refine lv_goto (tgt := 294) hx hb d_Model_row_200 (by decide) ?_
                  have hP9 := hP.sub (ws' := [oc h_this 12 ((fsL0.set 4 (.int (nI (a + k)))).set 2 (.int 0)), ic h_text k_text 4000 f_text]) [0, 1] rfl
                  have hD9 := hD.sub (ws' := [oc h_this 12 ((fsL0.set 4 (.int (nI (a + k)))).set 2 (.int 0)), ic h_text k_text 4000 f_text]) [0, 1] (by decide) rfl
                  have hK9 := hK.sub (tys' := [(k_text, .int)]) [0] rfl
                  have hv183 : ((fsL0.set 4 (.int (nI (a + k)))).set 2 (.int 0))[6]? = some (.long (pkd f_text a k)) := ((ls_ne (by decide)).trans ((ls_ne (by decide)).trans hL6))
                  have hv184 : ((fsL0.set 4 (.int (nI (a + k)))).set 2 (.int 0))[5]? = some (.int (nmb f_text a k)) := ((ls_ne (by decide)).trans ((ls_ne (by decide)).trans hL5))
                  have hv185 : ((fsL0.set 4 (.int (nI (a + k)))).set 2 (.int 0))[4]? = some (.int (nI (a + k))) := ((ls_ne (by decide)).trans (ls_eq (by simp only [List.length_set, hLl]; decide)))
                  have hv186 : ((fsL0.set 4 (.int (nI (a + k)))).set 2 (.int 0))[2]? = some (.int 0) := (ls_eq (by simp only [List.length_set, hLl]; decide))
                  exact W.vret hx hb hr (fun t ht hW => ⟨⟨(), rfl, trivial, ((fsL0.set 4 (.int (nI (a + k)))).set 2 (.int 0)), ⟨(by first | exact hLl | (simp only [List.length_set]; exact hLl)), (fun j n6 n5 n4 n2 => ((ls_ne n2).trans ((ls_ne n4).trans (hLf j n6 n5)))), (by first | exact hv183 | (rw [hv183]; refine congrArg some (congrArg _ ?_); first | (rw [hN]; done) | (rw [hN, ← hC]; unfold srt; all_goals (first | rw [if_pos c108] | rw [if_neg c108]); all_goals (first | rw [if_pos c151] | rw [if_neg c151]); all_goals (first | rw [if_pos c177] | rw [if_neg c177]); all_goals (first | rw [if_pos c182] | rw [if_neg c182])))), (by first | exact hv184 | (rw [hv184]; refine congrArg some (congrArg _ ?_); first | (rw [hN]; done) | (rw [hN, ← hC]; unfold srt; all_goals (first | rw [if_pos c108] | rw [if_neg c108]); all_goals (first | rw [if_pos c151] | rw [if_neg c151]); all_goals (first | rw [if_pos c177] | rw [if_neg c177]); all_goals (first | rw [if_pos c182] | rw [if_neg c182])))), (by first | exact hv185 | (rw [hv185]; refine congrArg some (congrArg _ ?_); first | (rw [hN]; done) | (rw [hN, ← hC]; unfold srt; all_goals (first | rw [if_pos c108] | rw [if_neg c108]); all_goals (first | rw [if_pos c151] | rw [if_neg c151]); all_goals (first | rw [if_pos c177] | rw [if_neg c177]); all_goals (first | rw [if_pos c182] | rw [if_neg c182])))), (by first | exact hv186 | (rw [hv186]; refine congrArg some (congrArg _ ?_); first | (rw [hN]; done) | (rw [hN, ← hC]; unfold srt; all_goals (first | rw [if_pos c108] | rw [if_neg c108]); all_goals (first | rw [if_pos c151] | rw [if_neg c151]); all_goals (first | rw [if_pos c177] | rw [if_neg c177]); all_goals (first | rw [if_pos c182] | rw [if_neg c182]))))⟩, by rw [ht]; exact hP9, va_K.moved hW.alike hK9, hD9⟩, hS.F ht⟩) hS.2.2 d_Model_row_294
                · have b182 : (0) < ((k)) := (ni_le (by omega) (by omega)).2 c182
                  refine lv_iload hx hb d_Model_row_172 (lv_at hl 1 rfl) ?_
                  refine lv_bipush (v := 9) hx hb d_Model_row_174 (by decide) ?_
                  refine lv_icmp_ge (tgt := 196) hx hb d_Model_row_176 (by decide) (fun c187 => ?_) (fun c187 => ?_)
                  · have b187 : (9) ≤ ((k)) := (ni_le (by omega) (by omega)).1 c187
                    refine lv_iconst (v := 0) hx hb d_Model_row_196 (by decide) ?_
                    refine va_put (D := (dC, dI)) (ci := 12) (v := .int 0) (ty := .int) (C := R_Model) (T := F_Model) (N := 153) hx hb hT i_Model t_Model t_Model_ok n_Model hown hK hP hD hS 0 rfl rfl 2 (by decide) (hT _ fl_Model_352) (fun _ h9 => h9) rfl (by decide +kernel) rfl rfl (by simp only [List.length_set, hLl]; decide) d_Model_row_197 (fun H locs hP hD hS => ?_)
                    have hP : va_P (dC, dI) cls_all [oc h_this 12 ((fsL0.set 4 (.int (nI (a + k)))).set 2 (.int 0)), ic h_text k_text 4000 f_text] H := hP
                    have hD : va_D A [oc h_this 12 ((fsL0.set 4 (.int (nI (a + k)))).set 2 (.int 0)), ic h_text k_text 4000 f_text] := hD
                    refine lv_goto (tgt := 294) hx hb d_Model_row_200 (by decide) ?_
                    have hP9 := hP.sub (ws' := [oc h_this 12 ((fsL0.set 4 (.int (nI (a + k)))).set 2 (.int 0)), ic h_text k_text 4000 f_text]) [0, 1] rfl
                    have hD9 := hD.sub (ws' := [oc h_this 12 ((fsL0.set 4 (.int (nI (a + k)))).set 2 (.int 0)), ic h_text k_text 4000 f_text]) [0, 1] (by decide) rfl
                    have hK9 := hK.sub (tys' := [(k_text, .int)]) [0] rfl
                    have hv188 : ((fsL0.set 4 (.int (nI (a + k)))).set 2 (.int 0))[6]? = some (.long (pkd f_text a k)) := ((ls_ne (by decide)).trans ((ls_ne (by decide)).trans hL6))
                    have hv189 : ((fsL0.set 4 (.int (nI (a + k)))).set 2 (.int 0))[5]? = some (.int (nmb f_text a k)) := ((ls_ne (by decide)).trans ((ls_ne (by decide)).trans hL5))
                    have hv190 : ((fsL0.set 4 (.int (nI (a + k)))).set 2 (.int 0))[4]? = some (.int (nI (a + k))) := ((ls_ne (by decide)).trans (ls_eq (by simp only [List.length_set, hLl]; decide)))
                    have hv191 : ((fsL0.set 4 (.int (nI (a + k)))).set 2 (.int 0))[2]? = some (.int 0) := (ls_eq (by simp only [List.length_set, hLl]; decide))
                    exact W.vret hx hb hr (fun t ht hW => ⟨⟨(), rfl, trivial, ((fsL0.set 4 (.int (nI (a + k)))).set 2 (.int 0)), ⟨(by first | exact hLl | (simp only [List.length_set]; exact hLl)), (fun j n6 n5 n4 n2 => ((ls_ne n2).trans ((ls_ne n4).trans (hLf j n6 n5)))), (by first | exact hv188 | (rw [hv188]; refine congrArg some (congrArg _ ?_); first | (rw [hN]; done) | (rw [hN, ← hC]; unfold srt; all_goals (first | rw [if_pos c108] | rw [if_neg c108]); all_goals (first | rw [if_pos c151] | rw [if_neg c151]); all_goals (first | rw [if_pos c177] | rw [if_neg c177]); all_goals (first | rw [if_pos c182] | rw [if_neg c182]); all_goals (first | rw [if_pos c187] | rw [if_neg c187])))), (by first | exact hv189 | (rw [hv189]; refine congrArg some (congrArg _ ?_); first | (rw [hN]; done) | (rw [hN, ← hC]; unfold srt; all_goals (first | rw [if_pos c108] | rw [if_neg c108]); all_goals (first | rw [if_pos c151] | rw [if_neg c151]); all_goals (first | rw [if_pos c177] | rw [if_neg c177]); all_goals (first | rw [if_pos c182] | rw [if_neg c182]); all_goals (first | rw [if_pos c187] | rw [if_neg c187])))), (by first | exact hv190 | (rw [hv190]; refine congrArg some (congrArg _ ?_); first | (rw [hN]; done) | (rw [hN, ← hC]; unfold srt; all_goals (first | rw [if_pos c108] | rw [if_neg c108]); all_goals (first | rw [if_pos c151] | rw [if_neg c151]); all_goals (first | rw [if_pos c177] | rw [if_neg c177]); all_goals (first | rw [if_pos c182] | rw [if_neg c182]); all_goals (first | rw [if_pos c187] | rw [if_neg c187])))), (by first | exact hv191 | (rw [hv191]; refine congrArg some (congrArg _ ?_); first | (rw [hN]; done) | (rw [hN, ← hC]; unfold srt; all_goals (first | rw [if_pos c108] | rw [if_neg c108]); all_goals (first | rw [if_pos c151] | rw [if_neg c151]); all_goals (first | rw [if_pos c177] | rw [if_neg c177]); all_goals (first | rw [if_pos c182] | rw [if_neg c182]); all_goals (first | rw [if_pos c187] | rw [if_neg c187]))))⟩, by rw [ht]; exact hP9, va_K.moved hW.alike hK9, hD9⟩, hS.F ht⟩) hS.2.2 d_Model_row_294
                  · have b187 : ((k)) < (9) := (ni_le (by omega) (by omega)).2 c187
                    refine lv_iload hx hb d_Model_row_179 (lv_at hl 2 rfl) ?_
                    refine lv_if_eq (tgt := 196) hx hb d_Model_row_181 (by decide) (fun c192 => ?_) (fun c192 => ?_)
                    · refine lv_iconst (v := 0) hx hb d_Model_row_196 (by decide) ?_
                      refine va_put (D := (dC, dI)) (ci := 12) (v := .int 0) (ty := .int) (C := R_Model) (T := F_Model) (N := 153) hx hb hT i_Model t_Model t_Model_ok n_Model hown hK hP hD hS 0 rfl rfl 2 (by decide) (hT _ fl_Model_352) (fun _ h9 => h9) rfl (by decide +kernel) rfl rfl (by simp only [List.length_set, hLl]; decide) d_Model_row_197 (fun H locs hP hD hS => ?_)
                      have hP : va_P (dC, dI) cls_all [oc h_this 12 ((fsL0.set 4 (.int (nI (a + k)))).set 2 (.int 0)), ic h_text k_text 4000 f_text] H := hP
                      have hD : va_D A [oc h_this 12 ((fsL0.set 4 (.int (nI (a + k)))).set 2 (.int 0)), ic h_text k_text 4000 f_text] := hD
                      refine lv_goto (tgt := 294) hx hb d_Model_row_200 (by decide) ?_
                      have hP9 := hP.sub (ws' := [oc h_this 12 ((fsL0.set 4 (.int (nI (a + k)))).set 2 (.int 0)), ic h_text k_text 4000 f_text]) [0, 1] rfl
                      have hD9 := hD.sub (ws' := [oc h_this 12 ((fsL0.set 4 (.int (nI (a + k)))).set 2 (.int 0)), ic h_text k_text 4000 f_text]) [0, 1] (by decide) rfl
                      have hK9 := hK.sub (tys' := [(k_text, .int)]) [0] rfl
                      have hv193 : ((fsL0.set 4 (.int (nI (a + k)))).set 2 (.int 0))[6]? = some (.long (pkd f_text a k)) := ((ls_ne (by decide)).trans ((ls_ne (by decide)).trans hL6))
                      have hv194 : ((fsL0.set 4 (.int (nI (a + k)))).set 2 (.int 0))[5]? = some (.int (nmb f_text a k)) := ((ls_ne (by decide)).trans ((ls_ne (by decide)).trans hL5))
                      have hv195 : ((fsL0.set 4 (.int (nI (a + k)))).set 2 (.int 0))[4]? = some (.int (nI (a + k))) := ((ls_ne (by decide)).trans (ls_eq (by simp only [List.length_set, hLl]; decide)))
                      have hv196 : ((fsL0.set 4 (.int (nI (a + k)))).set 2 (.int 0))[2]? = some (.int 0) := (ls_eq (by simp only [List.length_set, hLl]; decide))
                      exact W.vret hx hb hr (fun t ht hW => ⟨⟨(), rfl, trivial, ((fsL0.set 4 (.int (nI (a + k)))).set 2 (.int 0)), ⟨(by first | exact hLl | (simp only [List.length_set]; exact hLl)), (fun j n6 n5 n4 n2 => ((ls_ne n2).trans ((ls_ne n4).trans (hLf j n6 n5)))), (by first | exact hv193 | (rw [hv193]; refine congrArg some (congrArg _ ?_); first | (rw [hN]; done) | (rw [hN, ← hC]; unfold srt; all_goals (first | rw [if_pos c108] | rw [if_neg c108]); all_goals (first | rw [if_pos c151] | rw [if_neg c151]); all_goals (first | rw [if_pos c177] | rw [if_neg c177]); all_goals (first | rw [if_pos c182] | rw [if_neg c182]); all_goals (first | rw [if_pos c187] | rw [if_neg c187]); all_goals (first | rw [if_pos c192] | rw [if_neg c192])))), (by first | exact hv194 | (rw [hv194]; refine congrArg some (congrArg _ ?_); first | (rw [hN]; done) | (rw [hN, ← hC]; unfold srt; all_goals (first | rw [if_pos c108] | rw [if_neg c108]); all_goals (first | rw [if_pos c151] | rw [if_neg c151]); all_goals (first | rw [if_pos c177] | rw [if_neg c177]); all_goals (first | rw [if_pos c182] | rw [if_neg c182]); all_goals (first | rw [if_pos c187] | rw [if_neg c187]); all_goals (first | rw [if_pos c192] | rw [if_neg c192])))), (by first | exact hv195 | (rw [hv195]; refine congrArg some (congrArg _ ?_); first | (rw [hN]; done) | (rw [hN, ← hC]; unfold srt; all_goals (first | rw [if_pos c108] | rw [if_neg c108]); all_goals (first | rw [if_pos c151] | rw [if_neg c151]); all_goals (first | rw [if_pos c177] | rw [if_neg c177]); all_goals (first | rw [if_pos c182] | rw [if_neg c182]); all_goals (first | rw [if_pos c187] | rw [if_neg c187]); all_goals (first | rw [if_pos c192] | rw [if_neg c192])))), (by first | exact hv196 | (rw [hv196]; refine congrArg some (congrArg _ ?_); first | (rw [hN]; done) | (rw [hN, ← hC]; unfold srt; all_goals (first | rw [if_pos c108] | rw [if_neg c108]); all_goals (first | rw [if_pos c151] | rw [if_neg c151]); all_goals (first | rw [if_pos c177] | rw [if_neg c177]); all_goals (first | rw [if_pos c182] | rw [if_neg c182]); all_goals (first | rw [if_pos c187] | rw [if_neg c187]); all_goals (first | rw [if_pos c192] | rw [if_neg c192]))))⟩, by rw [ht]; exact hP9, va_K.moved hW.alike hK9, hD9⟩, hS.F ht⟩) hS.2.2 d_Model_row_294
                    · refine lv_iload hx hb d_Model_row_184 (lv_at hl 0 rfl) ?_
                      have hPc := hP.sub (ws' := []) [] rfl
                      have hKc := hK.sub (tys' := []) [] rfl
                      refine vp_callSi (va_Run.run (va_runS (As := [.int r107]) (rest := [.ref h_this]) ⟨hx, hb, hml, hown, hT⟩ (c_Model_isSmall l dC dI (p1 := r107) ) (va_cwS 1 hT (gS ml_Model_320 st_Model_isSmall ini_Model co_Model_isSmall) rfl rfl rfl (by decide +kernel) ⟨Nat.le_of_ble_eq_true rfl, Nat.le_of_ble_eq_true rfl⟩) ⟨fbS, fun U hU hW => ⟨rfl, by rw [hU]; exact hPc, va_K.moved hW.alike hKc⟩⟩ rfl rfl hl.1 rfl (lv_room (Nat.le_of_ble_eq_true rfl)) d_Model_row_186 ⟨Nat.le_of_ble_eq_true rfl, Nat.le_of_ble_eq_true rfl⟩)) (fun r197 hr197 => ?_)
                      refine lv_if_eq (tgt := 196) hx hb d_Model_row_189 (by decide) (fun c198 => ?_) (fun c198 => ?_)
                      · refine lv_iconst (v := 0) hx hb d_Model_row_196 (by decide) ?_
                        refine va_put (D := (dC, dI)) (ci := 12) (v := .int 0) (ty := .int) (C := R_Model) (T := F_Model) (N := 153) hx hb hT i_Model t_Model t_Model_ok n_Model hown hK hP hD hS 0 rfl rfl 2 (by decide) (hT _ fl_Model_352) (fun _ h9 => h9) rfl (by decide +kernel) rfl rfl (by simp only [List.length_set, hLl]; decide) d_Model_row_197 (fun H locs hP hD hS => ?_)
                        have hP : va_P (dC, dI) cls_all [oc h_this 12 ((fsL0.set 4 (.int (nI (a + k)))).set 2 (.int 0)), ic h_text k_text 4000 f_text] H := hP
                        have hD : va_D A [oc h_this 12 ((fsL0.set 4 (.int (nI (a + k)))).set 2 (.int 0)), ic h_text k_text 4000 f_text] := hD
                        refine lv_goto (tgt := 294) hx hb d_Model_row_200 (by decide) ?_
                        have hP9 := hP.sub (ws' := [oc h_this 12 ((fsL0.set 4 (.int (nI (a + k)))).set 2 (.int 0)), ic h_text k_text 4000 f_text]) [0, 1] rfl
                        have hD9 := hD.sub (ws' := [oc h_this 12 ((fsL0.set 4 (.int (nI (a + k)))).set 2 (.int 0)), ic h_text k_text 4000 f_text]) [0, 1] (by decide) rfl
                        have hK9 := hK.sub (tys' := [(k_text, .int)]) [0] rfl
                        have hv199 : ((fsL0.set 4 (.int (nI (a + k)))).set 2 (.int 0))[6]? = some (.long (pkd f_text a k)) := ((ls_ne (by decide)).trans ((ls_ne (by decide)).trans hL6))
                        have hv200 : ((fsL0.set 4 (.int (nI (a + k)))).set 2 (.int 0))[5]? = some (.int (nmb f_text a k)) := ((ls_ne (by decide)).trans ((ls_ne (by decide)).trans hL5))
                        have hv201 : ((fsL0.set 4 (.int (nI (a + k)))).set 2 (.int 0))[4]? = some (.int (nI (a + k))) := ((ls_ne (by decide)).trans (ls_eq (by simp only [List.length_set, hLl]; decide)))
                        have hv202 : ((fsL0.set 4 (.int (nI (a + k)))).set 2 (.int 0))[2]? = some (.int 0) := (ls_eq (by simp only [List.length_set, hLl]; decide))
                        exact W.vret hx hb hr (fun t ht hW => ⟨⟨(), rfl, trivial, ((fsL0.set 4 (.int (nI (a + k)))).set 2 (.int 0)), ⟨(by first | exact hLl | (simp only [List.length_set]; exact hLl)), (fun j n6 n5 n4 n2 => ((ls_ne n2).trans ((ls_ne n4).trans (hLf j n6 n5)))), (by first | exact hv199 | (rw [hv199]; refine congrArg some (congrArg _ ?_); first | (rw [hN]; done) | (rw [hN, ← hC]; unfold srt; all_goals (first | rw [if_pos c108] | rw [if_neg c108]); all_goals (first | rw [if_pos c151] | rw [if_neg c151]); all_goals (first | rw [if_pos c177] | rw [if_neg c177]); all_goals (first | rw [if_pos c182] | rw [if_neg c182]); all_goals (first | rw [if_pos c187] | rw [if_neg c187]); all_goals (first | rw [if_pos c192] | rw [if_neg c192]); all_goals (first | rw [if_pos (yz hr197 c198)] | rw [if_neg (nz hr197 c198)] | (rw [← hr197]; first | rw [if_pos c198] | rw [if_neg c198]))))), (by first | exact hv200 | (rw [hv200]; refine congrArg some (congrArg _ ?_); first | (rw [hN]; done) | (rw [hN, ← hC]; unfold srt; all_goals (first | rw [if_pos c108] | rw [if_neg c108]); all_goals (first | rw [if_pos c151] | rw [if_neg c151]); all_goals (first | rw [if_pos c177] | rw [if_neg c177]); all_goals (first | rw [if_pos c182] | rw [if_neg c182]); all_goals (first | rw [if_pos c187] | rw [if_neg c187]); all_goals (first | rw [if_pos c192] | rw [if_neg c192]); all_goals (first | rw [if_pos (yz hr197 c198)] | rw [if_neg (nz hr197 c198)] | (rw [← hr197]; first | rw [if_pos c198] | rw [if_neg c198]))))), (by first | exact hv201 | (rw [hv201]; refine congrArg some (congrArg _ ?_); first | (rw [hN]; done) | (rw [hN, ← hC]; unfold srt; all_goals (first | rw [if_pos c108] | rw [if_neg c108]); all_goals (first | rw [if_pos c151] | rw [if_neg c151]); all_goals (first | rw [if_pos c177] | rw [if_neg c177]); all_goals (first | rw [if_pos c182] | rw [if_neg c182]); all_goals (first | rw [if_pos c187] | rw [if_neg c187]); all_goals (first | rw [if_pos c192] | rw [if_neg c192]); all_goals (first | rw [if_pos (yz hr197 c198)] | rw [if_neg (nz hr197 c198)] | (rw [← hr197]; first | rw [if_pos c198] | rw [if_neg c198]))))), (by first | exact hv202 | (rw [hv202]; refine congrArg some (congrArg _ ?_); first | (rw [hN]; done) | (rw [hN, ← hC]; unfold srt; all_goals (first | rw [if_pos c108] | rw [if_neg c108]); all_goals (first | rw [if_pos c151] | rw [if_neg c151]); all_goals (first | rw [if_pos c177] | rw [if_neg c177]); all_goals (first | rw [if_pos c182] | rw [if_neg c182]); all_goals (first | rw [if_pos c187] | rw [if_neg c187]); all_goals (first | rw [if_pos c192] | rw [if_neg c192]); all_goals (first | rw [if_pos (yz hr197 c198)] | rw [if_neg (nz hr197 c198)] | (rw [← hr197]; first | rw [if_pos c198] | rw [if_neg c198])))))⟩, by rw [ht]; exact hP9, va_K.moved hW.alike hK9, hD9⟩, hS.F ht⟩) hS.2.2 d_Model_row_294
                      · refine lv_iconst (v := 4) hx hb d_Model_row_192 (by decide) ?_
                        refine lv_goto (tgt := 197) hx hb d_Model_row_193 (by decide) ?_
                        refine va_put (D := (dC, dI)) (ci := 12) (v := .int 4) (ty := .int) (C := R_Model) (T := F_Model) (N := 153) hx hb hT i_Model t_Model t_Model_ok n_Model hown hK hP hD hS 0 rfl rfl 2 (by decide) (hT _ fl_Model_352) (fun _ h9 => h9) rfl (by decide +kernel) rfl rfl (by simp only [List.length_set, hLl]; decide) d_Model_row_197 (fun H locs hP hD hS => ?_)
                        have hP : va_P (dC, dI) cls_all [oc h_this 12 ((fsL0.set 4 (.int (nI (a + k)))).set 2 (.int 4)), ic h_text k_text 4000 f_text] H := hP
                        have hD : va_D A [oc h_this 12 ((fsL0.set 4 (.int (nI (a + k)))).set 2 (.int 4)), ic h_text k_text 4000 f_text] := hD
                        refine lv_goto (tgt := 294) hx hb d_Model_row_200 (by decide) ?_
                        have hP9 := hP.sub (ws' := [oc h_this 12 ((fsL0.set 4 (.int (nI (a + k)))).set 2 (.int 4)), ic h_text k_text 4000 f_text]) [0, 1] rfl
                        have hD9 := hD.sub (ws' := [oc h_this 12 ((fsL0.set 4 (.int (nI (a + k)))).set 2 (.int 4)), ic h_text k_text 4000 f_text]) [0, 1] (by decide) rfl
                        have hK9 := hK.sub (tys' := [(k_text, .int)]) [0] rfl
                        have hv203 : ((fsL0.set 4 (.int (nI (a + k)))).set 2 (.int 4))[6]? = some (.long (pkd f_text a k)) := ((ls_ne (by decide)).trans ((ls_ne (by decide)).trans hL6))
                        have hv204 : ((fsL0.set 4 (.int (nI (a + k)))).set 2 (.int 4))[5]? = some (.int (nmb f_text a k)) := ((ls_ne (by decide)).trans ((ls_ne (by decide)).trans hL5))
                        have hv205 : ((fsL0.set 4 (.int (nI (a + k)))).set 2 (.int 4))[4]? = some (.int (nI (a + k))) := ((ls_ne (by decide)).trans (ls_eq (by simp only [List.length_set, hLl]; decide)))
                        have hv206 : ((fsL0.set 4 (.int (nI (a + k)))).set 2 (.int 4))[2]? = some (.int 4) := (ls_eq (by simp only [List.length_set, hLl]; decide))
                        exact W.vret hx hb hr (fun t ht hW => ⟨⟨(), rfl, trivial, ((fsL0.set 4 (.int (nI (a + k)))).set 2 (.int 4)), ⟨(by first | exact hLl | (simp only [List.length_set]; exact hLl)), (fun j n6 n5 n4 n2 => ((ls_ne n2).trans ((ls_ne n4).trans (hLf j n6 n5)))), (by first | exact hv203 | (rw [hv203]; refine congrArg some (congrArg _ ?_); first | (rw [hN]; done) | (rw [hN, ← hC]; unfold srt; all_goals (first | rw [if_pos c108] | rw [if_neg c108]); all_goals (first | rw [if_pos c151] | rw [if_neg c151]); all_goals (first | rw [if_pos c177] | rw [if_neg c177]); all_goals (first | rw [if_pos c182] | rw [if_neg c182]); all_goals (first | rw [if_pos c187] | rw [if_neg c187]); all_goals (first | rw [if_pos c192] | rw [if_neg c192]); all_goals (first | rw [if_pos (yz hr197 c198)] | rw [if_neg (nz hr197 c198)] | (rw [← hr197]; first | rw [if_pos c198] | rw [if_neg c198]))))), (by first | exact hv204 | (rw [hv204]; refine congrArg some (congrArg _ ?_); first | (rw [hN]; done) | (rw [hN, ← hC]; unfold srt; all_goals (first | rw [if_pos c108] | rw [if_neg c108]); all_goals (first | rw [if_pos c151] | rw [if_neg c151]); all_goals (first | rw [if_pos c177] | rw [if_neg c177]); all_goals (first | rw [if_pos c182] | rw [if_neg c182]); all_goals (first | rw [if_pos c187] | rw [if_neg c187]); all_goals (first | rw [if_pos c192] | rw [if_neg c192]); all_goals (first | rw [if_pos (yz hr197 c198)] | rw [if_neg (nz hr197 c198)] | (rw [← hr197]; first | rw [if_pos c198] | rw [if_neg c198]))))), (by first | exact hv205 | (rw [hv205]; refine congrArg some (congrArg _ ?_); first | (rw [hN]; done) | (rw [hN, ← hC]; unfold srt; all_goals (first | rw [if_pos c108] | rw [if_neg c108]); all_goals (first | rw [if_pos c151] | rw [if_neg c151]); all_goals (first | rw [if_pos c177] | rw [if_neg c177]); all_goals (first | rw [if_pos c182] | rw [if_neg c182]); all_goals (first | rw [if_pos c187] | rw [if_neg c187]); all_goals (first | rw [if_pos c192] | rw [if_neg c192]); all_goals (first | rw [if_pos (yz hr197 c198)] | rw [if_neg (nz hr197 c198)] | (rw [← hr197]; first | rw [if_pos c198] | rw [if_neg c198]))))), (by first | exact hv206 | (rw [hv206]; refine congrArg some (congrArg _ ?_); first | (rw [hN]; done) | (rw [hN, ← hC]; unfold srt; all_goals (first | rw [if_pos c108] | rw [if_neg c108]); all_goals (first | rw [if_pos c151] | rw [if_neg c151]); all_goals (first | rw [if_pos c177] | rw [if_neg c177]); all_goals (first | rw [if_pos c182] | rw [if_neg c182]); all_goals (first | rw [if_pos c187] | rw [if_neg c187]); all_goals (first | rw [if_pos c192] | rw [if_neg c192]); all_goals (first | rw [if_pos (yz hr197 c198)] | rw [if_neg (nz hr197 c198)] | (rw [← hr197]; first | rw [if_pos c198] | rw [if_neg c198])))))⟩, by rw [ht]; exact hP9, va_K.moved hW.alike hK9, hD9⟩, hS.F ht⟩) hS.2.2 d_Model_row_294
        · have hy : cL (f_text (a + k)) := yz hr104 c105
          refine lv_iload hx hb d_Model_row_38 (lv_at hl 1 rfl) ?_
          refine lv_if_eq (tgt := 59) hx hb d_Model_row_40 (by decide) (fun c207 => ?_) (fun c207 => ?_)
          · have hd : dgs f_text a (k + 1) = 0 := if_pos c207
            refine lv_iconst (v := 0) hx hb d_Model_row_59 (by decide) ?_
            refine lv_istore (lv' := [(4, .int 0), (5, .int (sml f_text a k)), (3, .int (nI (a + k))), (0, .ref h_this), (1, .int (nI a)), (2, .int p2)]) hx hb d_Model_row_60 hl (by decide) rfl (fun ls hl => ?_)
            refine lv_iload hx hb d_Model_row_62 (lv_at hl 1 rfl) ?_
            refine lv_if_eq (tgt := 83) hx hb d_Model_row_64 (by decide) (fun c208 => ?_) (fun c208 => ?_)
            · have hs : sml f_text a (k + 1) = 0 := if_pos c208
              refine lv_iconst (v := 0) hx hb d_Model_row_83 (by decide) ?_
              refine lv_istore (lv' := [(5, .int 0), (4, .int 0), (3, .int (nI (a + k))), (0, .ref h_this), (1, .int (nI a)), (2, .int p2)]) hx hb d_Model_row_84 hl (by decide) rfl (fun ls hl => ?_)
              refine lv_aload_n hx hb d_Model_row_86 rfl (lv_at hl 3 rfl) ?_
              refine lv_aload_n hx hb d_Model_row_87 rfl (lv_at hl 3 rfl) ?_
              refine va_get (D := (dC, dI)) (ci := 12) (v := .long (pkd f_text a k)) (C := R_Model) (T := F_Model) (N := 153) hx hb hT i_Model hown hK hP 0 rfl rfl 6 (by decide) (hT _ fl_Model_365) (fun _ h9 => h9) hL6 d_Model_row_88 ?_
              refine lv_bipush (v := 8) hx hb d_Model_row_91 (by decide) ?_
              obtain ⟨x209, e209⟩ : ∃ z : Int64, (pkd f_text a k) <<< ((8 : Int32).toInt64 &&& 63) = z := ⟨_, rfl⟩
              refine lv_lshl (v := x209) hx hb d_Model_row_93 e209 ?_
              refine lv_aload_n hx hb d_Model_row_94 rfl (lv_at hl 3 rfl) ?_
              refine va_get (D := (dC, dI)) (ci := 12) (v := .ref h_text) (C := R_Model) (T := F_Model) (N := 153) hx hb hT i_Model hown hK hP 0 rfl rfl 0 (by decide) (hT _ fl_Model_7) (fun _ h9 => h9) ((hLf 0 (by decide) (by decide)).trans g_this_text) d_Model_row_95 ?_
              refine lv_iload_n hx hb d_Model_row_98 rfl (lv_at hl 2 rfl) ?_
              refine va_iald hx hb hK hP 1 0 rfl rfl (vp_in_nI (by omega) (by decide)) d_Model_row_99 ?_
              refine lv_topi (fun x210 e210 => ?_)
              obtain rfl : x210 = f_text (a + k) := e210.trans (congrArg f_text (nI_clamp (by omega)))
              obtain ⟨x211, e211⟩ : ∃ z : Int64, ((f_text (a + k)) : Int32).toInt64 = z := ⟨_, rfl⟩
              refine lv_i2l (v := x211) hx hb d_Model_row_100 e211 ?_
              refine lv_lor hx hb d_Model_row_101 ?_
              refine lv_topl (fun x212 e212 => ?_)
              obtain rfl : x212 = pkd f_text a (k + 1) := by rw [e212, ← e209, ← e211]; rfl
              refine va_put (D := (dC, dI)) (ci := 12) (v := .long (pkd f_text a (k + 1))) (ty := .long) (C := R_Model) (T := F_Model) (N := 153) hx hb hT i_Model t_Model t_Model_ok n_Model hown hK hP hD hS 0 rfl rfl 6 (by decide) (hT _ fl_Model_365) (fun _ h9 => h9) rfl (by decide +kernel) rfl rfl (by simp only [List.length_set, hLl]; decide) d_Model_row_102 (fun H locs hP hD hS => ?_)
              have hP : va_P (dC, dI) cls_all [oc h_this 12 (fsL0.set 6 (.long (pkd f_text a (k + 1)))), ic h_text k_text 4000 f_text] H := hP
              have hD : va_D A [oc h_this 12 (fsL0.set 6 (.long (pkd f_text a (k + 1)))), ic h_text k_text 4000 f_text] := hD
              refine lv_aload_n hx hb d_Model_row_105 rfl (lv_at hl 3 rfl) ?_
              refine lv_bipush (v := 10) hx hb d_Model_row_106 (by decide) ?_
              refine lv_aload_n hx hb d_Model_row_108 rfl (lv_at hl 3 rfl) ?_
              refine va_get (D := (dC, dI)) (ci := 12) (v := .int (nmb f_text a k)) (C := R_Model) (T := F_Model) (N := 153) hx hb hT i_Model hown hK hP 0 rfl rfl 5 (by decide) (hT _ fl_Model_369) (fun _ h9 => h9) ((ls_ne (by decide)).trans hL5) d_Model_row_109 ?_
              refine lv_imul hx hb d_Model_row_112 ?_
              refine lv_topi (fun x213 e213 => ?_)
              refine lv_aload_n hx hb d_Model_row_113 rfl (lv_at hl 3 rfl) ?_
              refine va_get (D := (dC, dI)) (ci := 12) (v := .ref h_text) (C := R_Model) (T := F_Model) (N := 153) hx hb hT i_Model hown hK hP 0 rfl rfl 0 (by decide) (hT _ fl_Model_7) (fun _ h9 => h9) ((ls_ne (by decide)).trans ((hLf 0 (by decide) (by decide)).trans g_this_text)) d_Model_row_114 ?_
              refine lv_iload_n hx hb d_Model_row_117 rfl (lv_at hl 2 rfl) ?_
              refine va_iald hx hb hK hP 1 0 rfl rfl (vp_in_nI (by omega) (by decide)) d_Model_row_118 ?_
              refine lv_topi (fun x214 e214 => ?_)
              obtain rfl : x214 = f_text (a + k) := e214.trans (congrArg f_text (nI_clamp (by omega)))
              refine lv_iadd hx hb d_Model_row_119 ?_
              refine lv_topi (fun x215 e215 => ?_)
              refine lv_bipush (v := 48) hx hb d_Model_row_120 (by decide) ?_
              refine lv_isub hx hb d_Model_row_122 ?_
              refine lv_topi (fun x216 e216 => ?_)
              obtain rfl : x216 = nmb f_text a (k + 1) := by rw [e216, e215, e213]; rfl
              refine va_put (D := (dC, dI)) (ci := 12) (v := .int (nmb f_text a (k + 1))) (ty := .int) (C := R_Model) (T := F_Model) (N := 153) hx hb hT i_Model t_Model t_Model_ok n_Model hown hK hP hD hS 0 rfl rfl 5 (by decide) (hT _ fl_Model_369) (fun _ h9 => h9) rfl (by decide +kernel) rfl rfl (by simp only [List.length_set, hLl]; decide) d_Model_row_123 (fun H locs hP hD hS => ?_)
              have hP : va_P (dC, dI) cls_all [oc h_this 12 ((fsL0.set 6 (.long (pkd f_text a (k + 1)))).set 5 (.int (nmb f_text a (k + 1)))), ic h_text k_text 4000 f_text] H := hP
              have hD : va_D A [oc h_this 12 ((fsL0.set 6 (.long (pkd f_text a (k + 1)))).set 5 (.int (nmb f_text a (k + 1)))), ic h_text k_text 4000 f_text] := hD
              refine lv_iinc (v := (nI (a + k + 1))) (lv' := [(3, .int (nI (a + k + 1))), (5, .int 0), (4, .int 0), (0, .ref h_this), (1, .int (nI a)), (2, .int p2)]) hx hb d_Model_row_126 hl (k := 2) rfl (nI_add (a + k) 1) (by decide) rfl (fun ls hl => ?_)
              refine lv_goto (tgt := 18) hx hb d_Model_row_129 (by decide) ?_
              have hl : lv_has ls 8 [(3, .int (nI (a + (k + 1)))), (5, .int (sml f_text a (k + 1))), (4, .int (dgs f_text a (k + 1))), (0, .ref h_this), (1, .int (nI a)), (2, .int p2)] := by rw [hd, hs]; exact hl
              exact ih (k + 1) (by omega) (he.trans (by rw [rl_y hy (by omega)]; rw [show a + (k + 1) = a + k + 1 by omega, show tz - a - (k + 1) = tz - a - k - 1 by omega]; omega)) (by omega) ((fsL0.set 6 (.long (pkd f_text a (k + 1)))).set 5 (.int (nmb f_text a (k + 1)))) (by first | exact hLl | (simp only [List.length_set]; exact hLl)) (fun j n6 n5 => ((ls_ne n5).trans ((ls_ne n6).trans (hLf j n6 n5)))) ((ls_ne (by decide)).trans (ls_eq (by simp only [List.length_set, hLl]; decide))) (ls_eq (by simp only [List.length_set, hLl]; decide)) _ _ hP hD hS ls (lv_sub hl [1, 2, 0, 3, 4, 5] rfl)
            · refine lv_aload_n hx hb d_Model_row_67 rfl (lv_at hl 3 rfl) ?_
              refine va_get (D := (dC, dI)) (ci := 12) (v := .ref h_text) (C := R_Model) (T := F_Model) (N := 153) hx hb hT i_Model hown hK hP 0 rfl rfl 0 (by decide) (hT _ fl_Model_7) (fun _ h9 => h9) ((hLf 0 (by decide) (by decide)).trans g_this_text) d_Model_row_68 ?_
              refine lv_iload_n hx hb d_Model_row_71 rfl (lv_at hl 2 rfl) ?_
              refine va_iald hx hb hK hP 1 0 rfl rfl (vp_in_nI (by omega) (by decide)) d_Model_row_72 ?_
              refine lv_topi (fun x217 e217 => ?_)
              obtain rfl : x217 = f_text (a + k) := e217.trans (congrArg f_text (nI_clamp (by omega)))
              have hPc := hP.sub (ws' := []) [] rfl
              have hKc := hK.sub (tys' := []) [] rfl
              refine vp_callSi (va_Run.run (va_runS (As := [.int (f_text (a + k))]) (rest := []) ⟨hx, hb, hml, hown, hT⟩ (c_Model_isGreat l dC dI (p1 := (f_text (a + k))) ) (va_cwS 1 hT (gS ml_Model_324 st_Model_isGreat ini_Model co_Model_isGreat) rfl rfl rfl (by decide +kernel) ⟨Nat.le_of_ble_eq_true rfl, Nat.le_of_ble_eq_true rfl⟩) ⟨fbS, fun U hU hW => ⟨rfl, by rw [hU]; exact hPc, va_K.moved hW.alike hKc⟩⟩ rfl rfl hl.1 rfl (lv_room (Nat.le_of_ble_eq_true rfl)) d_Model_row_73 ⟨Nat.le_of_ble_eq_true rfl, Nat.le_of_ble_eq_true rfl⟩)) (fun r218 hr218 => ?_)
              refine lv_if_ne (tgt := 83) hx hb d_Model_row_76 (by decide) (fun c219 => ?_) (fun c219 => ?_)
              · have hs : sml f_text a (k + 1) = 0 := (if_neg c208).trans (if_pos (yz hr218 c219))
                refine lv_iconst (v := 0) hx hb d_Model_row_83 (by decide) ?_
                refine lv_istore (lv' := [(5, .int 0), (4, .int 0), (3, .int (nI (a + k))), (0, .ref h_this), (1, .int (nI a)), (2, .int p2)]) hx hb d_Model_row_84 hl (by decide) rfl (fun ls hl => ?_)
                refine lv_aload_n hx hb d_Model_row_86 rfl (lv_at hl 3 rfl) ?_
                refine lv_aload_n hx hb d_Model_row_87 rfl (lv_at hl 3 rfl) ?_
                refine va_get (D := (dC, dI)) (ci := 12) (v := .long (pkd f_text a k)) (C := R_Model) (T := F_Model) (N := 153) hx hb hT i_Model hown hK hP 0 rfl rfl 6 (by decide) (hT _ fl_Model_365) (fun _ h9 => h9) hL6 d_Model_row_88 ?_
                refine lv_bipush (v := 8) hx hb d_Model_row_91 (by decide) ?_
                obtain ⟨x220, e220⟩ : ∃ z : Int64, (pkd f_text a k) <<< ((8 : Int32).toInt64 &&& 63) = z := ⟨_, rfl⟩
                refine lv_lshl (v := x220) hx hb d_Model_row_93 e220 ?_
                refine lv_aload_n hx hb d_Model_row_94 rfl (lv_at hl 3 rfl) ?_
                refine va_get (D := (dC, dI)) (ci := 12) (v := .ref h_text) (C := R_Model) (T := F_Model) (N := 153) hx hb hT i_Model hown hK hP 0 rfl rfl 0 (by decide) (hT _ fl_Model_7) (fun _ h9 => h9) ((hLf 0 (by decide) (by decide)).trans g_this_text) d_Model_row_95 ?_
                refine lv_iload_n hx hb d_Model_row_98 rfl (lv_at hl 2 rfl) ?_
                refine va_iald hx hb hK hP 1 0 rfl rfl (vp_in_nI (by omega) (by decide)) d_Model_row_99 ?_
                refine lv_topi (fun x221 e221 => ?_)
                obtain rfl : x221 = f_text (a + k) := e221.trans (congrArg f_text (nI_clamp (by omega)))
                obtain ⟨x222, e222⟩ : ∃ z : Int64, ((f_text (a + k)) : Int32).toInt64 = z := ⟨_, rfl⟩
                refine lv_i2l (v := x222) hx hb d_Model_row_100 e222 ?_
                refine lv_lor hx hb d_Model_row_101 ?_
                refine lv_topl (fun x223 e223 => ?_)
                obtain rfl : x223 = pkd f_text a (k + 1) := by rw [e223, ← e220, ← e222]; rfl
                refine va_put (D := (dC, dI)) (ci := 12) (v := .long (pkd f_text a (k + 1))) (ty := .long) (C := R_Model) (T := F_Model) (N := 153) hx hb hT i_Model t_Model t_Model_ok n_Model hown hK hP hD hS 0 rfl rfl 6 (by decide) (hT _ fl_Model_365) (fun _ h9 => h9) rfl (by decide +kernel) rfl rfl (by simp only [List.length_set, hLl]; decide) d_Model_row_102 (fun H locs hP hD hS => ?_)
                have hP : va_P (dC, dI) cls_all [oc h_this 12 (fsL0.set 6 (.long (pkd f_text a (k + 1)))), ic h_text k_text 4000 f_text] H := hP
                have hD : va_D A [oc h_this 12 (fsL0.set 6 (.long (pkd f_text a (k + 1)))), ic h_text k_text 4000 f_text] := hD
                refine lv_aload_n hx hb d_Model_row_105 rfl (lv_at hl 3 rfl) ?_
                refine lv_bipush (v := 10) hx hb d_Model_row_106 (by decide) ?_
                refine lv_aload_n hx hb d_Model_row_108 rfl (lv_at hl 3 rfl) ?_
                refine va_get (D := (dC, dI)) (ci := 12) (v := .int (nmb f_text a k)) (C := R_Model) (T := F_Model) (N := 153) hx hb hT i_Model hown hK hP 0 rfl rfl 5 (by decide) (hT _ fl_Model_369) (fun _ h9 => h9) ((ls_ne (by decide)).trans hL5) d_Model_row_109 ?_
                refine lv_imul hx hb d_Model_row_112 ?_
                refine lv_topi (fun x224 e224 => ?_)
                refine lv_aload_n hx hb d_Model_row_113 rfl (lv_at hl 3 rfl) ?_
                refine va_get (D := (dC, dI)) (ci := 12) (v := .ref h_text) (C := R_Model) (T := F_Model) (N := 153) hx hb hT i_Model hown hK hP 0 rfl rfl 0 (by decide) (hT _ fl_Model_7) (fun _ h9 => h9) ((ls_ne (by decide)).trans ((hLf 0 (by decide) (by decide)).trans g_this_text)) d_Model_row_114 ?_
                refine lv_iload_n hx hb d_Model_row_117 rfl (lv_at hl 2 rfl) ?_
                refine va_iald hx hb hK hP 1 0 rfl rfl (vp_in_nI (by omega) (by decide)) d_Model_row_118 ?_
                refine lv_topi (fun x225 e225 => ?_)
                obtain rfl : x225 = f_text (a + k) := e225.trans (congrArg f_text (nI_clamp (by omega)))
                refine lv_iadd hx hb d_Model_row_119 ?_
                refine lv_topi (fun x226 e226 => ?_)
                refine lv_bipush (v := 48) hx hb d_Model_row_120 (by decide) ?_
                refine lv_isub hx hb d_Model_row_122 ?_
                refine lv_topi (fun x227 e227 => ?_)
                obtain rfl : x227 = nmb f_text a (k + 1) := by rw [e227, e226, e224]; rfl
                refine va_put (D := (dC, dI)) (ci := 12) (v := .int (nmb f_text a (k + 1))) (ty := .int) (C := R_Model) (T := F_Model) (N := 153) hx hb hT i_Model t_Model t_Model_ok n_Model hown hK hP hD hS 0 rfl rfl 5 (by decide) (hT _ fl_Model_369) (fun _ h9 => h9) rfl (by decide +kernel) rfl rfl (by simp only [List.length_set, hLl]; decide) d_Model_row_123 (fun H locs hP hD hS => ?_)
                have hP : va_P (dC, dI) cls_all [oc h_this 12 ((fsL0.set 6 (.long (pkd f_text a (k + 1)))).set 5 (.int (nmb f_text a (k + 1)))), ic h_text k_text 4000 f_text] H := hP
                have hD : va_D A [oc h_this 12 ((fsL0.set 6 (.long (pkd f_text a (k + 1)))).set 5 (.int (nmb f_text a (k + 1)))), ic h_text k_text 4000 f_text] := hD
                refine lv_iinc (v := (nI (a + k + 1))) (lv' := [(3, .int (nI (a + k + 1))), (5, .int 0), (4, .int 0), (0, .ref h_this), (1, .int (nI a)), (2, .int p2)]) hx hb d_Model_row_126 hl (k := 2) rfl (nI_add (a + k) 1) (by decide) rfl (fun ls hl => ?_)
                refine lv_goto (tgt := 18) hx hb d_Model_row_129 (by decide) ?_
                have hl : lv_has ls 8 [(3, .int (nI (a + (k + 1)))), (5, .int (sml f_text a (k + 1))), (4, .int (dgs f_text a (k + 1))), (0, .ref h_this), (1, .int (nI a)), (2, .int p2)] := by rw [hd, hs]; exact hl
                exact ih (k + 1) (by omega) (he.trans (by rw [rl_y hy (by omega)]; rw [show a + (k + 1) = a + k + 1 by omega, show tz - a - (k + 1) = tz - a - k - 1 by omega]; omega)) (by omega) ((fsL0.set 6 (.long (pkd f_text a (k + 1)))).set 5 (.int (nmb f_text a (k + 1)))) (by first | exact hLl | (simp only [List.length_set]; exact hLl)) (fun j n6 n5 => ((ls_ne n5).trans ((ls_ne n6).trans (hLf j n6 n5)))) ((ls_ne (by decide)).trans (ls_eq (by simp only [List.length_set, hLl]; decide))) (ls_eq (by simp only [List.length_set, hLl]; decide)) _ _ hP hD hS ls (lv_sub hl [1, 2, 0, 3, 4, 5] rfl)
              · have hs : sml f_text a (k + 1) = 1 := (if_neg c208).trans (if_neg (nz hr218 c219))
                refine lv_iconst (v := 1) hx hb d_Model_row_79 (by decide) ?_
                refine lv_goto (tgt := 84) hx hb d_Model_row_80 (by decide) ?_
                refine lv_istore (lv' := [(5, .int 1), (4, .int 0), (3, .int (nI (a + k))), (0, .ref h_this), (1, .int (nI a)), (2, .int p2)]) hx hb d_Model_row_84 hl (by decide) rfl (fun ls hl => ?_)
                refine lv_aload_n hx hb d_Model_row_86 rfl (lv_at hl 3 rfl) ?_
                refine lv_aload_n hx hb d_Model_row_87 rfl (lv_at hl 3 rfl) ?_
                refine va_get (D := (dC, dI)) (ci := 12) (v := .long (pkd f_text a k)) (C := R_Model) (T := F_Model) (N := 153) hx hb hT i_Model hown hK hP 0 rfl rfl 6 (by decide) (hT _ fl_Model_365) (fun _ h9 => h9) hL6 d_Model_row_88 ?_
                refine lv_bipush (v := 8) hx hb d_Model_row_91 (by decide) ?_
                obtain ⟨x228, e228⟩ : ∃ z : Int64, (pkd f_text a k) <<< ((8 : Int32).toInt64 &&& 63) = z := ⟨_, rfl⟩
                refine lv_lshl (v := x228) hx hb d_Model_row_93 e228 ?_
                refine lv_aload_n hx hb d_Model_row_94 rfl (lv_at hl 3 rfl) ?_
                refine va_get (D := (dC, dI)) (ci := 12) (v := .ref h_text) (C := R_Model) (T := F_Model) (N := 153) hx hb hT i_Model hown hK hP 0 rfl rfl 0 (by decide) (hT _ fl_Model_7) (fun _ h9 => h9) ((hLf 0 (by decide) (by decide)).trans g_this_text) d_Model_row_95 ?_
                refine lv_iload_n hx hb d_Model_row_98 rfl (lv_at hl 2 rfl) ?_
                refine va_iald hx hb hK hP 1 0 rfl rfl (vp_in_nI (by omega) (by decide)) d_Model_row_99 ?_
                refine lv_topi (fun x229 e229 => ?_)
                obtain rfl : x229 = f_text (a + k) := e229.trans (congrArg f_text (nI_clamp (by omega)))
                obtain ⟨x230, e230⟩ : ∃ z : Int64, ((f_text (a + k)) : Int32).toInt64 = z := ⟨_, rfl⟩
                refine lv_i2l (v := x230) hx hb d_Model_row_100 e230 ?_
                refine lv_lor hx hb d_Model_row_101 ?_
                refine lv_topl (fun x231 e231 => ?_)
                obtain rfl : x231 = pkd f_text a (k + 1) := by rw [e231, ← e228, ← e230]; rfl
                refine va_put (D := (dC, dI)) (ci := 12) (v := .long (pkd f_text a (k + 1))) (ty := .long) (C := R_Model) (T := F_Model) (N := 153) hx hb hT i_Model t_Model t_Model_ok n_Model hown hK hP hD hS 0 rfl rfl 6 (by decide) (hT _ fl_Model_365) (fun _ h9 => h9) rfl (by decide +kernel) rfl rfl (by simp only [List.length_set, hLl]; decide) d_Model_row_102 (fun H locs hP hD hS => ?_)
                have hP : va_P (dC, dI) cls_all [oc h_this 12 (fsL0.set 6 (.long (pkd f_text a (k + 1)))), ic h_text k_text 4000 f_text] H := hP
                have hD : va_D A [oc h_this 12 (fsL0.set 6 (.long (pkd f_text a (k + 1)))), ic h_text k_text 4000 f_text] := hD
                refine lv_aload_n hx hb d_Model_row_105 rfl (lv_at hl 3 rfl) ?_
                refine lv_bipush (v := 10) hx hb d_Model_row_106 (by decide) ?_
                refine lv_aload_n hx hb d_Model_row_108 rfl (lv_at hl 3 rfl) ?_
                refine va_get (D := (dC, dI)) (ci := 12) (v := .int (nmb f_text a k)) (C := R_Model) (T := F_Model) (N := 153) hx hb hT i_Model hown hK hP 0 rfl rfl 5 (by decide) (hT _ fl_Model_369) (fun _ h9 => h9) ((ls_ne (by decide)).trans hL5) d_Model_row_109 ?_
                refine lv_imul hx hb d_Model_row_112 ?_
                refine lv_topi (fun x232 e232 => ?_)
                refine lv_aload_n hx hb d_Model_row_113 rfl (lv_at hl 3 rfl) ?_
                refine va_get (D := (dC, dI)) (ci := 12) (v := .ref h_text) (C := R_Model) (T := F_Model) (N := 153) hx hb hT i_Model hown hK hP 0 rfl rfl 0 (by decide) (hT _ fl_Model_7) (fun _ h9 => h9) ((ls_ne (by decide)).trans ((hLf 0 (by decide) (by decide)).trans g_this_text)) d_Model_row_114 ?_
                refine lv_iload_n hx hb d_Model_row_117 rfl (lv_at hl 2 rfl) ?_
                refine va_iald hx hb hK hP 1 0 rfl rfl (vp_in_nI (by omega) (by decide)) d_Model_row_118 ?_
                refine lv_topi (fun x233 e233 => ?_)
                obtain rfl : x233 = f_text (a + k) := e233.trans (congrArg f_text (nI_clamp (by omega)))
                refine lv_iadd hx hb d_Model_row_119 ?_
                refine lv_topi (fun x234 e234 => ?_)
                refine lv_bipush (v := 48) hx hb d_Model_row_120 (by decide) ?_
                refine lv_isub hx hb d_Model_row_122 ?_
                refine lv_topi (fun x235 e235 => ?_)
                obtain rfl : x235 = nmb f_text a (k + 1) := by rw [e235, e234, e232]; rfl
                refine va_put (D := (dC, dI)) (ci := 12) (v := .int (nmb f_text a (k + 1))) (ty := .int) (C := R_Model) (T := F_Model) (N := 153) hx hb hT i_Model t_Model t_Model_ok n_Model hown hK hP hD hS 0 rfl rfl 5 (by decide) (hT _ fl_Model_369) (fun _ h9 => h9) rfl (by decide +kernel) rfl rfl (by simp only [List.length_set, hLl]; decide) d_Model_row_123 (fun H locs hP hD hS => ?_)
                have hP : va_P (dC, dI) cls_all [oc h_this 12 ((fsL0.set 6 (.long (pkd f_text a (k + 1)))).set 5 (.int (nmb f_text a (k + 1)))), ic h_text k_text 4000 f_text] H := hP
                have hD : va_D A [oc h_this 12 ((fsL0.set 6 (.long (pkd f_text a (k + 1)))).set 5 (.int (nmb f_text a (k + 1)))), ic h_text k_text 4000 f_text] := hD
                refine lv_iinc (v := (nI (a + k + 1))) (lv' := [(3, .int (nI (a + k + 1))), (5, .int 1), (4, .int 0), (0, .ref h_this), (1, .int (nI a)), (2, .int p2)]) hx hb d_Model_row_126 hl (k := 2) rfl (nI_add (a + k) 1) (by decide) rfl (fun ls hl => ?_)
                refine lv_goto (tgt := 18) hx hb d_Model_row_129 (by decide) ?_
                have hl : lv_has ls 8 [(3, .int (nI (a + (k + 1)))), (5, .int (sml f_text a (k + 1))), (4, .int (dgs f_text a (k + 1))), (0, .ref h_this), (1, .int (nI a)), (2, .int p2)] := by rw [hd, hs]; exact hl
                exact ih (k + 1) (by omega) (he.trans (by rw [rl_y hy (by omega)]; rw [show a + (k + 1) = a + k + 1 by omega, show tz - a - (k + 1) = tz - a - k - 1 by omega]; omega)) (by omega) ((fsL0.set 6 (.long (pkd f_text a (k + 1)))).set 5 (.int (nmb f_text a (k + 1)))) (by first | exact hLl | (simp only [List.length_set]; exact hLl)) (fun j n6 n5 => ((ls_ne n5).trans ((ls_ne n6).trans (hLf j n6 n5)))) ((ls_ne (by decide)).trans (ls_eq (by simp only [List.length_set, hLl]; decide))) (ls_eq (by simp only [List.length_set, hLl]; decide)) _ _ hP hD hS ls (lv_sub hl [1, 2, 0, 3, 4, 5] rfl)
          · refine lv_aload_n hx hb d_Model_row_43 rfl (lv_at hl 3 rfl) ?_
            refine va_get (D := (dC, dI)) (ci := 12) (v := .ref h_text) (C := R_Model) (T := F_Model) (N := 153) hx hb hT i_Model hown hK hP 0 rfl rfl 0 (by decide) (hT _ fl_Model_7) (fun _ h9 => h9) ((hLf 0 (by decide) (by decide)).trans g_this_text) d_Model_row_44 ?_
            refine lv_iload_n hx hb d_Model_row_47 rfl (lv_at hl 2 rfl) ?_
            refine va_iald hx hb hK hP 1 0 rfl rfl (vp_in_nI (by omega) (by decide)) d_Model_row_48 ?_
            refine lv_topi (fun x236 e236 => ?_)
            obtain rfl : x236 = f_text (a + k) := e236.trans (congrArg f_text (nI_clamp (by omega)))
            have hPc := hP.sub (ws' := []) [] rfl
            have hKc := hK.sub (tys' := []) [] rfl
            refine vp_callSi (va_Run.run (va_runS (As := [.int (f_text (a + k))]) (rest := []) ⟨hx, hb, hml, hown, hT⟩ (c_Model_isDigit l dC dI (p1 := (f_text (a + k))) ) (va_cwS 1 hT (gS ml_Model_327 st_Model_isDigit ini_Model co_Model_isDigit) rfl rfl rfl (by decide +kernel) ⟨Nat.le_of_ble_eq_true rfl, Nat.le_of_ble_eq_true rfl⟩) ⟨fbS, fun U hU hW => ⟨rfl, by rw [hU]; exact hPc, va_K.moved hW.alike hKc⟩⟩ rfl rfl hl.1 rfl (lv_room (Nat.le_of_ble_eq_true rfl)) d_Model_row_49 ⟨Nat.le_of_ble_eq_true rfl, Nat.le_of_ble_eq_true rfl⟩)) (fun r237 hr237 => ?_)
            refine lv_if_eq (tgt := 59) hx hb d_Model_row_52 (by decide) (fun c238 => ?_) (fun c238 => ?_)
            · have hd : dgs f_text a (k + 1) = 0 := (if_neg c207).trans (if_neg (nz hr237 c238))
              refine lv_iconst (v := 0) hx hb d_Model_row_59 (by decide) ?_
              refine lv_istore (lv' := [(4, .int 0), (5, .int (sml f_text a k)), (3, .int (nI (a + k))), (0, .ref h_this), (1, .int (nI a)), (2, .int p2)]) hx hb d_Model_row_60 hl (by decide) rfl (fun ls hl => ?_)
              refine lv_iload hx hb d_Model_row_62 (lv_at hl 1 rfl) ?_
              refine lv_if_eq (tgt := 83) hx hb d_Model_row_64 (by decide) (fun c239 => ?_) (fun c239 => ?_)
              · have hs : sml f_text a (k + 1) = 0 := if_pos c239
                refine lv_iconst (v := 0) hx hb d_Model_row_83 (by decide) ?_
                refine lv_istore (lv' := [(5, .int 0), (4, .int 0), (3, .int (nI (a + k))), (0, .ref h_this), (1, .int (nI a)), (2, .int p2)]) hx hb d_Model_row_84 hl (by decide) rfl (fun ls hl => ?_)
                refine lv_aload_n hx hb d_Model_row_86 rfl (lv_at hl 3 rfl) ?_
                refine lv_aload_n hx hb d_Model_row_87 rfl (lv_at hl 3 rfl) ?_
                refine va_get (D := (dC, dI)) (ci := 12) (v := .long (pkd f_text a k)) (C := R_Model) (T := F_Model) (N := 153) hx hb hT i_Model hown hK hP 0 rfl rfl 6 (by decide) (hT _ fl_Model_365) (fun _ h9 => h9) hL6 d_Model_row_88 ?_
                refine lv_bipush (v := 8) hx hb d_Model_row_91 (by decide) ?_
                obtain ⟨x240, e240⟩ : ∃ z : Int64, (pkd f_text a k) <<< ((8 : Int32).toInt64 &&& 63) = z := ⟨_, rfl⟩
                refine lv_lshl (v := x240) hx hb d_Model_row_93 e240 ?_
                refine lv_aload_n hx hb d_Model_row_94 rfl (lv_at hl 3 rfl) ?_
                refine va_get (D := (dC, dI)) (ci := 12) (v := .ref h_text) (C := R_Model) (T := F_Model) (N := 153) hx hb hT i_Model hown hK hP 0 rfl rfl 0 (by decide) (hT _ fl_Model_7) (fun _ h9 => h9) ((hLf 0 (by decide) (by decide)).trans g_this_text) d_Model_row_95 ?_
                refine lv_iload_n hx hb d_Model_row_98 rfl (lv_at hl 2 rfl) ?_
                refine va_iald hx hb hK hP 1 0 rfl rfl (vp_in_nI (by omega) (by decide)) d_Model_row_99 ?_
                refine lv_topi (fun x241 e241 => ?_)
                obtain rfl : x241 = f_text (a + k) := e241.trans (congrArg f_text (nI_clamp (by omega)))
                obtain ⟨x242, e242⟩ : ∃ z : Int64, ((f_text (a + k)) : Int32).toInt64 = z := ⟨_, rfl⟩
                refine lv_i2l (v := x242) hx hb d_Model_row_100 e242 ?_
                refine lv_lor hx hb d_Model_row_101 ?_
                refine lv_topl (fun x243 e243 => ?_)
                obtain rfl : x243 = pkd f_text a (k + 1) := by rw [e243, ← e240, ← e242]; rfl
                refine va_put (D := (dC, dI)) (ci := 12) (v := .long (pkd f_text a (k + 1))) (ty := .long) (C := R_Model) (T := F_Model) (N := 153) hx hb hT i_Model t_Model t_Model_ok n_Model hown hK hP hD hS 0 rfl rfl 6 (by decide) (hT _ fl_Model_365) (fun _ h9 => h9) rfl (by decide +kernel) rfl rfl (by simp only [List.length_set, hLl]; decide) d_Model_row_102 (fun H locs hP hD hS => ?_)
                have hP : va_P (dC, dI) cls_all [oc h_this 12 (fsL0.set 6 (.long (pkd f_text a (k + 1)))), ic h_text k_text 4000 f_text] H := hP
                have hD : va_D A [oc h_this 12 (fsL0.set 6 (.long (pkd f_text a (k + 1)))), ic h_text k_text 4000 f_text] := hD
                refine lv_aload_n hx hb d_Model_row_105 rfl (lv_at hl 3 rfl) ?_
                refine lv_bipush (v := 10) hx hb d_Model_row_106 (by decide) ?_
                refine lv_aload_n hx hb d_Model_row_108 rfl (lv_at hl 3 rfl) ?_
                refine va_get (D := (dC, dI)) (ci := 12) (v := .int (nmb f_text a k)) (C := R_Model) (T := F_Model) (N := 153) hx hb hT i_Model hown hK hP 0 rfl rfl 5 (by decide) (hT _ fl_Model_369) (fun _ h9 => h9) ((ls_ne (by decide)).trans hL5) d_Model_row_109 ?_
                refine lv_imul hx hb d_Model_row_112 ?_
                refine lv_topi (fun x244 e244 => ?_)
                refine lv_aload_n hx hb d_Model_row_113 rfl (lv_at hl 3 rfl) ?_
                refine va_get (D := (dC, dI)) (ci := 12) (v := .ref h_text) (C := R_Model) (T := F_Model) (N := 153) hx hb hT i_Model hown hK hP 0 rfl rfl 0 (by decide) (hT _ fl_Model_7) (fun _ h9 => h9) ((ls_ne (by decide)).trans ((hLf 0 (by decide) (by decide)).trans g_this_text)) d_Model_row_114 ?_
                refine lv_iload_n hx hb d_Model_row_117 rfl (lv_at hl 2 rfl) ?_
                refine va_iald hx hb hK hP 1 0 rfl rfl (vp_in_nI (by omega) (by decide)) d_Model_row_118 ?_
                refine lv_topi (fun x245 e245 => ?_)
                obtain rfl : x245 = f_text (a + k) := e245.trans (congrArg f_text (nI_clamp (by omega)))
                refine lv_iadd hx hb d_Model_row_119 ?_
                refine lv_topi (fun x246 e246 => ?_)
                refine lv_bipush (v := 48) hx hb d_Model_row_120 (by decide) ?_
                refine lv_isub hx hb d_Model_row_122 ?_
                refine lv_topi (fun x247 e247 => ?_)
                obtain rfl : x247 = nmb f_text a (k + 1) := by rw [e247, e246, e244]; rfl
                refine va_put (D := (dC, dI)) (ci := 12) (v := .int (nmb f_text a (k + 1))) (ty := .int) (C := R_Model) (T := F_Model) (N := 153) hx hb hT i_Model t_Model t_Model_ok n_Model hown hK hP hD hS 0 rfl rfl 5 (by decide) (hT _ fl_Model_369) (fun _ h9 => h9) rfl (by decide +kernel) rfl rfl (by simp only [List.length_set, hLl]; decide) d_Model_row_123 (fun H locs hP hD hS => ?_)
                have hP : va_P (dC, dI) cls_all [oc h_this 12 ((fsL0.set 6 (.long (pkd f_text a (k + 1)))).set 5 (.int (nmb f_text a (k + 1)))), ic h_text k_text 4000 f_text] H := hP
                have hD : va_D A [oc h_this 12 ((fsL0.set 6 (.long (pkd f_text a (k + 1)))).set 5 (.int (nmb f_text a (k + 1)))), ic h_text k_text 4000 f_text] := hD
                refine lv_iinc (v := (nI (a + k + 1))) (lv' := [(3, .int (nI (a + k + 1))), (5, .int 0), (4, .int 0), (0, .ref h_this), (1, .int (nI a)), (2, .int p2)]) hx hb d_Model_row_126 hl (k := 2) rfl (nI_add (a + k) 1) (by decide) rfl (fun ls hl => ?_)
                refine lv_goto (tgt := 18) hx hb d_Model_row_129 (by decide) ?_
                have hl : lv_has ls 8 [(3, .int (nI (a + (k + 1)))), (5, .int (sml f_text a (k + 1))), (4, .int (dgs f_text a (k + 1))), (0, .ref h_this), (1, .int (nI a)), (2, .int p2)] := by rw [hd, hs]; exact hl
                exact ih (k + 1) (by omega) (he.trans (by rw [rl_y hy (by omega)]; rw [show a + (k + 1) = a + k + 1 by omega, show tz - a - (k + 1) = tz - a - k - 1 by omega]; omega)) (by omega) ((fsL0.set 6 (.long (pkd f_text a (k + 1)))).set 5 (.int (nmb f_text a (k + 1)))) (by first | exact hLl | (simp only [List.length_set]; exact hLl)) (fun j n6 n5 => ((ls_ne n5).trans ((ls_ne n6).trans (hLf j n6 n5)))) ((ls_ne (by decide)).trans (ls_eq (by simp only [List.length_set, hLl]; decide))) (ls_eq (by simp only [List.length_set, hLl]; decide)) _ _ hP hD hS ls (lv_sub hl [1, 2, 0, 3, 4, 5] rfl)
              · refine lv_aload_n hx hb d_Model_row_67 rfl (lv_at hl 3 rfl) ?_
                refine va_get (D := (dC, dI)) (ci := 12) (v := .ref h_text) (C := R_Model) (T := F_Model) (N := 153) hx hb hT i_Model hown hK hP 0 rfl rfl 0 (by decide) (hT _ fl_Model_7) (fun _ h9 => h9) ((hLf 0 (by decide) (by decide)).trans g_this_text) d_Model_row_68 ?_
                refine lv_iload_n hx hb d_Model_row_71 rfl (lv_at hl 2 rfl) ?_
                refine va_iald hx hb hK hP 1 0 rfl rfl (vp_in_nI (by omega) (by decide)) d_Model_row_72 ?_
                refine lv_topi (fun x248 e248 => ?_)
                obtain rfl : x248 = f_text (a + k) := e248.trans (congrArg f_text (nI_clamp (by omega)))
                have hPc := hP.sub (ws' := []) [] rfl
                have hKc := hK.sub (tys' := []) [] rfl
                refine vp_callSi (va_Run.run (va_runS (As := [.int (f_text (a + k))]) (rest := []) ⟨hx, hb, hml, hown, hT⟩ (c_Model_isGreat l dC dI (p1 := (f_text (a + k))) ) (va_cwS 1 hT (gS ml_Model_324 st_Model_isGreat ini_Model co_Model_isGreat) rfl rfl rfl (by decide +kernel) ⟨Nat.le_of_ble_eq_true rfl, Nat.le_of_ble_eq_true rfl⟩) ⟨fbS, fun U hU hW => ⟨rfl, by rw [hU]; exact hPc, va_K.moved hW.alike hKc⟩⟩ rfl rfl hl.1 rfl (lv_room (Nat.le_of_ble_eq_true rfl)) d_Model_row_73 ⟨Nat.le_of_ble_eq_true rfl, Nat.le_of_ble_eq_true rfl⟩)) (fun r249 hr249 => ?_)
                refine lv_if_ne (tgt := 83) hx hb d_Model_row_76 (by decide) (fun c250 => ?_) (fun c250 => ?_)
                · have hs : sml f_text a (k + 1) = 0 := (if_neg c239).trans (if_pos (yz hr249 c250))
                  refine lv_iconst (v := 0) hx hb d_Model_row_83 (by decide) ?_
                  refine lv_istore (lv' := [(5, .int 0), (4, .int 0), (3, .int (nI (a + k))), (0, .ref h_this), (1, .int (nI a)), (2, .int p2)]) hx hb d_Model_row_84 hl (by decide) rfl (fun ls hl => ?_)
                  refine lv_aload_n hx hb d_Model_row_86 rfl (lv_at hl 3 rfl) ?_
                  refine lv_aload_n hx hb d_Model_row_87 rfl (lv_at hl 3 rfl) ?_
                  refine va_get (D := (dC, dI)) (ci := 12) (v := .long (pkd f_text a k)) (C := R_Model) (T := F_Model) (N := 153) hx hb hT i_Model hown hK hP 0 rfl rfl 6 (by decide) (hT _ fl_Model_365) (fun _ h9 => h9) hL6 d_Model_row_88 ?_
                  refine lv_bipush (v := 8) hx hb d_Model_row_91 (by decide) ?_
                  obtain ⟨x251, e251⟩ : ∃ z : Int64, (pkd f_text a k) <<< ((8 : Int32).toInt64 &&& 63) = z := ⟨_, rfl⟩
                  refine lv_lshl (v := x251) hx hb d_Model_row_93 e251 ?_
                  refine lv_aload_n hx hb d_Model_row_94 rfl (lv_at hl 3 rfl) ?_
                  refine va_get (D := (dC, dI)) (ci := 12) (v := .ref h_text) (C := R_Model) (T := F_Model) (N := 153) hx hb hT i_Model hown hK hP 0 rfl rfl 0 (by decide) (hT _ fl_Model_7) (fun _ h9 => h9) ((hLf 0 (by decide) (by decide)).trans g_this_text) d_Model_row_95 ?_
                  refine lv_iload_n hx hb d_Model_row_98 rfl (lv_at hl 2 rfl) ?_
                  refine va_iald hx hb hK hP 1 0 rfl rfl (vp_in_nI (by omega) (by decide)) d_Model_row_99 ?_
                  refine lv_topi (fun x252 e252 => ?_)
                  obtain rfl : x252 = f_text (a + k) := e252.trans (congrArg f_text (nI_clamp (by omega)))
                  obtain ⟨x253, e253⟩ : ∃ z : Int64, ((f_text (a + k)) : Int32).toInt64 = z := ⟨_, rfl⟩
                  refine lv_i2l (v := x253) hx hb d_Model_row_100 e253 ?_
                  refine lv_lor hx hb d_Model_row_101 ?_
                  refine lv_topl (fun x254 e254 => ?_)
                  obtain rfl : x254 = pkd f_text a (k + 1) := by rw [e254, ← e251, ← e253]; rfl
                  refine va_put (D := (dC, dI)) (ci := 12) (v := .long (pkd f_text a (k + 1))) (ty := .long) (C := R_Model) (T := F_Model) (N := 153) hx hb hT i_Model t_Model t_Model_ok n_Model hown hK hP hD hS 0 rfl rfl 6 (by decide) (hT _ fl_Model_365) (fun _ h9 => h9) rfl (by decide +kernel) rfl rfl (by simp only [List.length_set, hLl]; decide) d_Model_row_102 (fun H locs hP hD hS => ?_)
                  have hP : va_P (dC, dI) cls_all [oc h_this 12 (fsL0.set 6 (.long (pkd f_text a (k + 1)))), ic h_text k_text 4000 f_text] H := hP
                  have hD : va_D A [oc h_this 12 (fsL0.set 6 (.long (pkd f_text a (k + 1)))), ic h_text k_text 4000 f_text] := hD
                  refine lv_aload_n hx hb d_Model_row_105 rfl (lv_at hl 3 rfl) ?_
                  refine lv_bipush (v := 10) hx hb d_Model_row_106 (by decide) ?_
                  refine lv_aload_n hx hb d_Model_row_108 rfl (lv_at hl 3 rfl) ?_
                  refine va_get (D := (dC, dI)) (ci := 12) (v := .int (nmb f_text a k)) (C := R_Model) (T := F_Model) (N := 153) hx hb hT i_Model hown hK hP 0 rfl rfl 5 (by decide) (hT _ fl_Model_369) (fun _ h9 => h9) ((ls_ne (by decide)).trans hL5) d_Model_row_109 ?_
                  refine lv_imul hx hb d_Model_row_112 ?_
                  refine lv_topi (fun x255 e255 => ?_)
                  refine lv_aload_n hx hb d_Model_row_113 rfl (lv_at hl 3 rfl) ?_
                  refine va_get (D := (dC, dI)) (ci := 12) (v := .ref h_text) (C := R_Model) (T := F_Model) (N := 153) hx hb hT i_Model hown hK hP 0 rfl rfl 0 (by decide) (hT _ fl_Model_7) (fun _ h9 => h9) ((ls_ne (by decide)).trans ((hLf 0 (by decide) (by decide)).trans g_this_text)) d_Model_row_114 ?_
                  refine lv_iload_n hx hb d_Model_row_117 rfl (lv_at hl 2 rfl) ?_
                  refine va_iald hx hb hK hP 1 0 rfl rfl (vp_in_nI (by omega) (by decide)) d_Model_row_118 ?_
                  refine lv_topi (fun x256 e256 => ?_)
                  obtain rfl : x256 = f_text (a + k) := e256.trans (congrArg f_text (nI_clamp (by omega)))
                  refine lv_iadd hx hb d_Model_row_119 ?_
                  refine lv_topi (fun x257 e257 => ?_)
                  refine lv_bipush (v := 48) hx hb d_Model_row_120 (by decide) ?_
                  refine lv_isub hx hb d_Model_row_122 ?_
                  refine lv_topi (fun x258 e258 => ?_)
                  obtain rfl : x258 = nmb f_text a (k + 1) := by rw [e258, e257, e255]; rfl
                  refine va_put (D := (dC, dI)) (ci := 12) (v := .int (nmb f_text a (k + 1))) (ty := .int) (C := R_Model) (T := F_Model) (N := 153) hx hb hT i_Model t_Model t_Model_ok n_Model hown hK hP hD hS 0 rfl rfl 5 (by decide) (hT _ fl_Model_369) (fun _ h9 => h9) rfl (by decide +kernel) rfl rfl (by simp only [List.length_set, hLl]; decide) d_Model_row_123 (fun H locs hP hD hS => ?_)
                  have hP : va_P (dC, dI) cls_all [oc h_this 12 ((fsL0.set 6 (.long (pkd f_text a (k + 1)))).set 5 (.int (nmb f_text a (k + 1)))), ic h_text k_text 4000 f_text] H := hP
                  have hD : va_D A [oc h_this 12 ((fsL0.set 6 (.long (pkd f_text a (k + 1)))).set 5 (.int (nmb f_text a (k + 1)))), ic h_text k_text 4000 f_text] := hD
                  refine lv_iinc (v := (nI (a + k + 1))) (lv' := [(3, .int (nI (a + k + 1))), (5, .int 0), (4, .int 0), (0, .ref h_this), (1, .int (nI a)), (2, .int p2)]) hx hb d_Model_row_126 hl (k := 2) rfl (nI_add (a + k) 1) (by decide) rfl (fun ls hl => ?_)
                  refine lv_goto (tgt := 18) hx hb d_Model_row_129 (by decide) ?_
                  have hl : lv_has ls 8 [(3, .int (nI (a + (k + 1)))), (5, .int (sml f_text a (k + 1))), (4, .int (dgs f_text a (k + 1))), (0, .ref h_this), (1, .int (nI a)), (2, .int p2)] := by rw [hd, hs]; exact hl
                  exact ih (k + 1) (by omega) (he.trans (by rw [rl_y hy (by omega)]; rw [show a + (k + 1) = a + k + 1 by omega, show tz - a - (k + 1) = tz - a - k - 1 by omega]; omega)) (by omega) ((fsL0.set 6 (.long (pkd f_text a (k + 1)))).set 5 (.int (nmb f_text a (k + 1)))) (by first | exact hLl | (simp only [List.length_set]; exact hLl)) (fun j n6 n5 => ((ls_ne n5).trans ((ls_ne n6).trans (hLf j n6 n5)))) ((ls_ne (by decide)).trans (ls_eq (by simp only [List.length_set, hLl]; decide))) (ls_eq (by simp only [List.length_set, hLl]; decide)) _ _ hP hD hS ls (lv_sub hl [1, 2, 0, 3, 4, 5] rfl)
                · have hs : sml f_text a (k + 1) = 1 := (if_neg c239).trans (if_neg (nz hr249 c250))
                  refine lv_iconst (v := 1) hx hb d_Model_row_79 (by decide) ?_
                  refine lv_goto (tgt := 84) hx hb d_Model_row_80 (by decide) ?_
                  refine lv_istore (lv' := [(5, .int 1), (4, .int 0), (3, .int (nI (a + k))), (0, .ref h_this), (1, .int (nI a)), (2, .int p2)]) hx hb d_Model_row_84 hl (by decide) rfl (fun ls hl => ?_)
                  refine lv_aload_n hx hb d_Model_row_86 rfl (lv_at hl 3 rfl) ?_
                  refine lv_aload_n hx hb d_Model_row_87 rfl (lv_at hl 3 rfl) ?_
                  refine va_get (D := (dC, dI)) (ci := 12) (v := .long (pkd f_text a k)) (C := R_Model) (T := F_Model) (N := 153) hx hb hT i_Model hown hK hP 0 rfl rfl 6 (by decide) (hT _ fl_Model_365) (fun _ h9 => h9) hL6 d_Model_row_88 ?_
                  refine lv_bipush (v := 8) hx hb d_Model_row_91 (by decide) ?_
                  obtain ⟨x259, e259⟩ : ∃ z : Int64, (pkd f_text a k) <<< ((8 : Int32).toInt64 &&& 63) = z := ⟨_, rfl⟩
                  refine lv_lshl (v := x259) hx hb d_Model_row_93 e259 ?_
                  refine lv_aload_n hx hb d_Model_row_94 rfl (lv_at hl 3 rfl) ?_
                  refine va_get (D := (dC, dI)) (ci := 12) (v := .ref h_text) (C := R_Model) (T := F_Model) (N := 153) hx hb hT i_Model hown hK hP 0 rfl rfl 0 (by decide) (hT _ fl_Model_7) (fun _ h9 => h9) ((hLf 0 (by decide) (by decide)).trans g_this_text) d_Model_row_95 ?_
                  refine lv_iload_n hx hb d_Model_row_98 rfl (lv_at hl 2 rfl) ?_
                  refine va_iald hx hb hK hP 1 0 rfl rfl (vp_in_nI (by omega) (by decide)) d_Model_row_99 ?_
                  refine lv_topi (fun x260 e260 => ?_)
                  obtain rfl : x260 = f_text (a + k) := e260.trans (congrArg f_text (nI_clamp (by omega)))
                  obtain ⟨x261, e261⟩ : ∃ z : Int64, ((f_text (a + k)) : Int32).toInt64 = z := ⟨_, rfl⟩
                  refine lv_i2l (v := x261) hx hb d_Model_row_100 e261 ?_
                  refine lv_lor hx hb d_Model_row_101 ?_
                  refine lv_topl (fun x262 e262 => ?_)
                  obtain rfl : x262 = pkd f_text a (k + 1) := by rw [e262, ← e259, ← e261]; rfl
                  refine va_put (D := (dC, dI)) (ci := 12) (v := .long (pkd f_text a (k + 1))) (ty := .long) (C := R_Model) (T := F_Model) (N := 153) hx hb hT i_Model t_Model t_Model_ok n_Model hown hK hP hD hS 0 rfl rfl 6 (by decide) (hT _ fl_Model_365) (fun _ h9 => h9) rfl (by decide +kernel) rfl rfl (by simp only [List.length_set, hLl]; decide) d_Model_row_102 (fun H locs hP hD hS => ?_)
                  have hP : va_P (dC, dI) cls_all [oc h_this 12 (fsL0.set 6 (.long (pkd f_text a (k + 1)))), ic h_text k_text 4000 f_text] H := hP
                  have hD : va_D A [oc h_this 12 (fsL0.set 6 (.long (pkd f_text a (k + 1)))), ic h_text k_text 4000 f_text] := hD
                  refine lv_aload_n hx hb d_Model_row_105 rfl (lv_at hl 3 rfl) ?_
                  refine lv_bipush (v := 10) hx hb d_Model_row_106 (by decide) ?_
                  refine lv_aload_n hx hb d_Model_row_108 rfl (lv_at hl 3 rfl) ?_
                  refine va_get (D := (dC, dI)) (ci := 12) (v := .int (nmb f_text a k)) (C := R_Model) (T := F_Model) (N := 153) hx hb hT i_Model hown hK hP 0 rfl rfl 5 (by decide) (hT _ fl_Model_369) (fun _ h9 => h9) ((ls_ne (by decide)).trans hL5) d_Model_row_109 ?_
                  refine lv_imul hx hb d_Model_row_112 ?_
                  refine lv_topi (fun x263 e263 => ?_)
                  refine lv_aload_n hx hb d_Model_row_113 rfl (lv_at hl 3 rfl) ?_
                  refine va_get (D := (dC, dI)) (ci := 12) (v := .ref h_text) (C := R_Model) (T := F_Model) (N := 153) hx hb hT i_Model hown hK hP 0 rfl rfl 0 (by decide) (hT _ fl_Model_7) (fun _ h9 => h9) ((ls_ne (by decide)).trans ((hLf 0 (by decide) (by decide)).trans g_this_text)) d_Model_row_114 ?_
                  refine lv_iload_n hx hb d_Model_row_117 rfl (lv_at hl 2 rfl) ?_
                  refine va_iald hx hb hK hP 1 0 rfl rfl (vp_in_nI (by omega) (by decide)) d_Model_row_118 ?_
                  refine lv_topi (fun x264 e264 => ?_)
                  obtain rfl : x264 = f_text (a + k) := e264.trans (congrArg f_text (nI_clamp (by omega)))
                  refine lv_iadd hx hb d_Model_row_119 ?_
                  refine lv_topi (fun x265 e265 => ?_)
                  refine lv_bipush (v := 48) hx hb d_Model_row_120 (by decide) ?_
                  refine lv_isub hx hb d_Model_row_122 ?_
                  refine lv_topi (fun x266 e266 => ?_)
                  obtain rfl : x266 = nmb f_text a (k + 1) := by rw [e266, e265, e263]; rfl
                  refine va_put (D := (dC, dI)) (ci := 12) (v := .int (nmb f_text a (k + 1))) (ty := .int) (C := R_Model) (T := F_Model) (N := 153) hx hb hT i_Model t_Model t_Model_ok n_Model hown hK hP hD hS 0 rfl rfl 5 (by decide) (hT _ fl_Model_369) (fun _ h9 => h9) rfl (by decide +kernel) rfl rfl (by simp only [List.length_set, hLl]; decide) d_Model_row_123 (fun H locs hP hD hS => ?_)
                  have hP : va_P (dC, dI) cls_all [oc h_this 12 ((fsL0.set 6 (.long (pkd f_text a (k + 1)))).set 5 (.int (nmb f_text a (k + 1)))), ic h_text k_text 4000 f_text] H := hP
                  have hD : va_D A [oc h_this 12 ((fsL0.set 6 (.long (pkd f_text a (k + 1)))).set 5 (.int (nmb f_text a (k + 1)))), ic h_text k_text 4000 f_text] := hD
                  refine lv_iinc (v := (nI (a + k + 1))) (lv' := [(3, .int (nI (a + k + 1))), (5, .int 1), (4, .int 0), (0, .ref h_this), (1, .int (nI a)), (2, .int p2)]) hx hb d_Model_row_126 hl (k := 2) rfl (nI_add (a + k) 1) (by decide) rfl (fun ls hl => ?_)
                  refine lv_goto (tgt := 18) hx hb d_Model_row_129 (by decide) ?_
                  have hl : lv_has ls 8 [(3, .int (nI (a + (k + 1)))), (5, .int (sml f_text a (k + 1))), (4, .int (dgs f_text a (k + 1))), (0, .ref h_this), (1, .int (nI a)), (2, .int p2)] := by rw [hd, hs]; exact hl
                  exact ih (k + 1) (by omega) (he.trans (by rw [rl_y hy (by omega)]; rw [show a + (k + 1) = a + k + 1 by omega, show tz - a - (k + 1) = tz - a - k - 1 by omega]; omega)) (by omega) ((fsL0.set 6 (.long (pkd f_text a (k + 1)))).set 5 (.int (nmb f_text a (k + 1)))) (by first | exact hLl | (simp only [List.length_set]; exact hLl)) (fun j n6 n5 => ((ls_ne n5).trans ((ls_ne n6).trans (hLf j n6 n5)))) ((ls_ne (by decide)).trans (ls_eq (by simp only [List.length_set, hLl]; decide))) (ls_eq (by simp only [List.length_set, hLl]; decide)) _ _ hP hD hS ls (lv_sub hl [1, 2, 0, 3, 4, 5] rfl)
            · have hd : dgs f_text a (k + 1) = 1 := (if_neg c207).trans (if_pos (yz hr237 c238))
              refine lv_iconst (v := 1) hx hb d_Model_row_55 (by decide) ?_
              refine lv_goto (tgt := 60) hx hb d_Model_row_56 (by decide) ?_
              refine lv_istore (lv' := [(4, .int 1), (5, .int (sml f_text a k)), (3, .int (nI (a + k))), (0, .ref h_this), (1, .int (nI a)), (2, .int p2)]) hx hb d_Model_row_60 hl (by decide) rfl (fun ls hl => ?_)
              refine lv_iload hx hb d_Model_row_62 (lv_at hl 1 rfl) ?_
              refine lv_if_eq (tgt := 83) hx hb d_Model_row_64 (by decide) (fun c267 => ?_) (fun c267 => ?_)
              · have hs : sml f_text a (k + 1) = 0 := if_pos c267
                refine lv_iconst (v := 0) hx hb d_Model_row_83 (by decide) ?_
                refine lv_istore (lv' := [(5, .int 0), (4, .int 1), (3, .int (nI (a + k))), (0, .ref h_this), (1, .int (nI a)), (2, .int p2)]) hx hb d_Model_row_84 hl (by decide) rfl (fun ls hl => ?_)
                refine lv_aload_n hx hb d_Model_row_86 rfl (lv_at hl 3 rfl) ?_
                refine lv_aload_n hx hb d_Model_row_87 rfl (lv_at hl 3 rfl) ?_
                refine va_get (D := (dC, dI)) (ci := 12) (v := .long (pkd f_text a k)) (C := R_Model) (T := F_Model) (N := 153) hx hb hT i_Model hown hK hP 0 rfl rfl 6 (by decide) (hT _ fl_Model_365) (fun _ h9 => h9) hL6 d_Model_row_88 ?_
                refine lv_bipush (v := 8) hx hb d_Model_row_91 (by decide) ?_
                obtain ⟨x268, e268⟩ : ∃ z : Int64, (pkd f_text a k) <<< ((8 : Int32).toInt64 &&& 63) = z := ⟨_, rfl⟩
                refine lv_lshl (v := x268) hx hb d_Model_row_93 e268 ?_
                refine lv_aload_n hx hb d_Model_row_94 rfl (lv_at hl 3 rfl) ?_
                refine va_get (D := (dC, dI)) (ci := 12) (v := .ref h_text) (C := R_Model) (T := F_Model) (N := 153) hx hb hT i_Model hown hK hP 0 rfl rfl 0 (by decide) (hT _ fl_Model_7) (fun _ h9 => h9) ((hLf 0 (by decide) (by decide)).trans g_this_text) d_Model_row_95 ?_
                refine lv_iload_n hx hb d_Model_row_98 rfl (lv_at hl 2 rfl) ?_
                refine va_iald hx hb hK hP 1 0 rfl rfl (vp_in_nI (by omega) (by decide)) d_Model_row_99 ?_
                refine lv_topi (fun x269 e269 => ?_)
                obtain rfl : x269 = f_text (a + k) := e269.trans (congrArg f_text (nI_clamp (by omega)))
                obtain ⟨x270, e270⟩ : ∃ z : Int64, ((f_text (a + k)) : Int32).toInt64 = z := ⟨_, rfl⟩
                refine lv_i2l (v := x270) hx hb d_Model_row_100 e270 ?_
                refine lv_lor hx hb d_Model_row_101 ?_
                refine lv_topl (fun x271 e271 => ?_)
                obtain rfl : x271 = pkd f_text a (k + 1) := by rw [e271, ← e268, ← e270]; rfl
                refine va_put (D := (dC, dI)) (ci := 12) (v := .long (pkd f_text a (k + 1))) (ty := .long) (C := R_Model) (T := F_Model) (N := 153) hx hb hT i_Model t_Model t_Model_ok n_Model hown hK hP hD hS 0 rfl rfl 6 (by decide) (hT _ fl_Model_365) (fun _ h9 => h9) rfl (by decide +kernel) rfl rfl (by simp only [List.length_set, hLl]; decide) d_Model_row_102 (fun H locs hP hD hS => ?_)
                have hP : va_P (dC, dI) cls_all [oc h_this 12 (fsL0.set 6 (.long (pkd f_text a (k + 1)))), ic h_text k_text 4000 f_text] H := hP
                have hD : va_D A [oc h_this 12 (fsL0.set 6 (.long (pkd f_text a (k + 1)))), ic h_text k_text 4000 f_text] := hD
                refine lv_aload_n hx hb d_Model_row_105 rfl (lv_at hl 3 rfl) ?_
                refine lv_bipush (v := 10) hx hb d_Model_row_106 (by decide) ?_
                refine lv_aload_n hx hb d_Model_row_108 rfl (lv_at hl 3 rfl) ?_
                refine va_get (D := (dC, dI)) (ci := 12) (v := .int (nmb f_text a k)) (C := R_Model) (T := F_Model) (N := 153) hx hb hT i_Model hown hK hP 0 rfl rfl 5 (by decide) (hT _ fl_Model_369) (fun _ h9 => h9) ((ls_ne (by decide)).trans hL5) d_Model_row_109 ?_
                refine lv_imul hx hb d_Model_row_112 ?_
                refine lv_topi (fun x272 e272 => ?_)
                refine lv_aload_n hx hb d_Model_row_113 rfl (lv_at hl 3 rfl) ?_
                refine va_get (D := (dC, dI)) (ci := 12) (v := .ref h_text) (C := R_Model) (T := F_Model) (N := 153) hx hb hT i_Model hown hK hP 0 rfl rfl 0 (by decide) (hT _ fl_Model_7) (fun _ h9 => h9) ((ls_ne (by decide)).trans ((hLf 0 (by decide) (by decide)).trans g_this_text)) d_Model_row_114 ?_
                refine lv_iload_n hx hb d_Model_row_117 rfl (lv_at hl 2 rfl) ?_
                refine va_iald hx hb hK hP 1 0 rfl rfl (vp_in_nI (by omega) (by decide)) d_Model_row_118 ?_
                refine lv_topi (fun x273 e273 => ?_)
                obtain rfl : x273 = f_text (a + k) := e273.trans (congrArg f_text (nI_clamp (by omega)))
                refine lv_iadd hx hb d_Model_row_119 ?_
                refine lv_topi (fun x274 e274 => ?_)
                refine lv_bipush (v := 48) hx hb d_Model_row_120 (by decide) ?_
                refine lv_isub hx hb d_Model_row_122 ?_
                refine lv_topi (fun x275 e275 => ?_)
                obtain rfl : x275 = nmb f_text a (k + 1) := by rw [e275, e274, e272]; rfl
                refine va_put (D := (dC, dI)) (ci := 12) (v := .int (nmb f_text a (k + 1))) (ty := .int) (C := R_Model) (T := F_Model) (N := 153) hx hb hT i_Model t_Model t_Model_ok n_Model hown hK hP hD hS 0 rfl rfl 5 (by decide) (hT _ fl_Model_369) (fun _ h9 => h9) rfl (by decide +kernel) rfl rfl (by simp only [List.length_set, hLl]; decide) d_Model_row_123 (fun H locs hP hD hS => ?_)
                have hP : va_P (dC, dI) cls_all [oc h_this 12 ((fsL0.set 6 (.long (pkd f_text a (k + 1)))).set 5 (.int (nmb f_text a (k + 1)))), ic h_text k_text 4000 f_text] H := hP
                have hD : va_D A [oc h_this 12 ((fsL0.set 6 (.long (pkd f_text a (k + 1)))).set 5 (.int (nmb f_text a (k + 1)))), ic h_text k_text 4000 f_text] := hD
                refine lv_iinc (v := (nI (a + k + 1))) (lv' := [(3, .int (nI (a + k + 1))), (5, .int 0), (4, .int 1), (0, .ref h_this), (1, .int (nI a)), (2, .int p2)]) hx hb d_Model_row_126 hl (k := 2) rfl (nI_add (a + k) 1) (by decide) rfl (fun ls hl => ?_)
                refine lv_goto (tgt := 18) hx hb d_Model_row_129 (by decide) ?_
                have hl : lv_has ls 8 [(3, .int (nI (a + (k + 1)))), (5, .int (sml f_text a (k + 1))), (4, .int (dgs f_text a (k + 1))), (0, .ref h_this), (1, .int (nI a)), (2, .int p2)] := by rw [hd, hs]; exact hl
                exact ih (k + 1) (by omega) (he.trans (by rw [rl_y hy (by omega)]; rw [show a + (k + 1) = a + k + 1 by omega, show tz - a - (k + 1) = tz - a - k - 1 by omega]; omega)) (by omega) ((fsL0.set 6 (.long (pkd f_text a (k + 1)))).set 5 (.int (nmb f_text a (k + 1)))) (by first | exact hLl | (simp only [List.length_set]; exact hLl)) (fun j n6 n5 => ((ls_ne n5).trans ((ls_ne n6).trans (hLf j n6 n5)))) ((ls_ne (by decide)).trans (ls_eq (by simp only [List.length_set, hLl]; decide))) (ls_eq (by simp only [List.length_set, hLl]; decide)) _ _ hP hD hS ls (lv_sub hl [1, 2, 0, 3, 4, 5] rfl)
              · refine lv_aload_n hx hb d_Model_row_67 rfl (lv_at hl 3 rfl) ?_
                refine va_get (D := (dC, dI)) (ci := 12) (v := .ref h_text) (C := R_Model) (T := F_Model) (N := 153) hx hb hT i_Model hown hK hP 0 rfl rfl 0 (by decide) (hT _ fl_Model_7) (fun _ h9 => h9) ((hLf 0 (by decide) (by decide)).trans g_this_text) d_Model_row_68 ?_
                refine lv_iload_n hx hb d_Model_row_71 rfl (lv_at hl 2 rfl) ?_
                refine va_iald hx hb hK hP 1 0 rfl rfl (vp_in_nI (by omega) (by decide)) d_Model_row_72 ?_
                refine lv_topi (fun x276 e276 => ?_)
                obtain rfl : x276 = f_text (a + k) := e276.trans (congrArg f_text (nI_clamp (by omega)))
                have hPc := hP.sub (ws' := []) [] rfl
                have hKc := hK.sub (tys' := []) [] rfl
                refine vp_callSi (va_Run.run (va_runS (As := [.int (f_text (a + k))]) (rest := []) ⟨hx, hb, hml, hown, hT⟩ (c_Model_isGreat l dC dI (p1 := (f_text (a + k))) ) (va_cwS 1 hT (gS ml_Model_324 st_Model_isGreat ini_Model co_Model_isGreat) rfl rfl rfl (by decide +kernel) ⟨Nat.le_of_ble_eq_true rfl, Nat.le_of_ble_eq_true rfl⟩) ⟨fbS, fun U hU hW => ⟨rfl, by rw [hU]; exact hPc, va_K.moved hW.alike hKc⟩⟩ rfl rfl hl.1 rfl (lv_room (Nat.le_of_ble_eq_true rfl)) d_Model_row_73 ⟨Nat.le_of_ble_eq_true rfl, Nat.le_of_ble_eq_true rfl⟩)) (fun r277 hr277 => ?_)
                refine lv_if_ne (tgt := 83) hx hb d_Model_row_76 (by decide) (fun c278 => ?_) (fun c278 => ?_)
                · have hs : sml f_text a (k + 1) = 0 := (if_neg c267).trans (if_pos (yz hr277 c278))
                  refine lv_iconst (v := 0) hx hb d_Model_row_83 (by decide) ?_
                  refine lv_istore (lv' := [(5, .int 0), (4, .int 1), (3, .int (nI (a + k))), (0, .ref h_this), (1, .int (nI a)), (2, .int p2)]) hx hb d_Model_row_84 hl (by decide) rfl (fun ls hl => ?_)
                  refine lv_aload_n hx hb d_Model_row_86 rfl (lv_at hl 3 rfl) ?_
                  refine lv_aload_n hx hb d_Model_row_87 rfl (lv_at hl 3 rfl) ?_
                  refine va_get (D := (dC, dI)) (ci := 12) (v := .long (pkd f_text a k)) (C := R_Model) (T := F_Model) (N := 153) hx hb hT i_Model hown hK hP 0 rfl rfl 6 (by decide) (hT _ fl_Model_365) (fun _ h9 => h9) hL6 d_Model_row_88 ?_
                  refine lv_bipush (v := 8) hx hb d_Model_row_91 (by decide) ?_
                  obtain ⟨x279, e279⟩ : ∃ z : Int64, (pkd f_text a k) <<< ((8 : Int32).toInt64 &&& 63) = z := ⟨_, rfl⟩
                  refine lv_lshl (v := x279) hx hb d_Model_row_93 e279 ?_
                  refine lv_aload_n hx hb d_Model_row_94 rfl (lv_at hl 3 rfl) ?_
                  refine va_get (D := (dC, dI)) (ci := 12) (v := .ref h_text) (C := R_Model) (T := F_Model) (N := 153) hx hb hT i_Model hown hK hP 0 rfl rfl 0 (by decide) (hT _ fl_Model_7) (fun _ h9 => h9) ((hLf 0 (by decide) (by decide)).trans g_this_text) d_Model_row_95 ?_
                  refine lv_iload_n hx hb d_Model_row_98 rfl (lv_at hl 2 rfl) ?_
                  refine va_iald hx hb hK hP 1 0 rfl rfl (vp_in_nI (by omega) (by decide)) d_Model_row_99 ?_
                  refine lv_topi (fun x280 e280 => ?_)
                  obtain rfl : x280 = f_text (a + k) := e280.trans (congrArg f_text (nI_clamp (by omega)))
                  obtain ⟨x281, e281⟩ : ∃ z : Int64, ((f_text (a + k)) : Int32).toInt64 = z := ⟨_, rfl⟩
                  refine lv_i2l (v := x281) hx hb d_Model_row_100 e281 ?_
                  refine lv_lor hx hb d_Model_row_101 ?_
                  refine lv_topl (fun x282 e282 => ?_)
                  obtain rfl : x282 = pkd f_text a (k + 1) := by rw [e282, ← e279, ← e281]; rfl
                  refine va_put (D := (dC, dI)) (ci := 12) (v := .long (pkd f_text a (k + 1))) (ty := .long) (C := R_Model) (T := F_Model) (N := 153) hx hb hT i_Model t_Model t_Model_ok n_Model hown hK hP hD hS 0 rfl rfl 6 (by decide) (hT _ fl_Model_365) (fun _ h9 => h9) rfl (by decide +kernel) rfl rfl (by simp only [List.length_set, hLl]; decide) d_Model_row_102 (fun H locs hP hD hS => ?_)
                  have hP : va_P (dC, dI) cls_all [oc h_this 12 (fsL0.set 6 (.long (pkd f_text a (k + 1)))), ic h_text k_text 4000 f_text] H := hP
                  have hD : va_D A [oc h_this 12 (fsL0.set 6 (.long (pkd f_text a (k + 1)))), ic h_text k_text 4000 f_text] := hD
                  refine lv_aload_n hx hb d_Model_row_105 rfl (lv_at hl 3 rfl) ?_
                  refine lv_bipush (v := 10) hx hb d_Model_row_106 (by decide) ?_
                  refine lv_aload_n hx hb d_Model_row_108 rfl (lv_at hl 3 rfl) ?_
                  refine va_get (D := (dC, dI)) (ci := 12) (v := .int (nmb f_text a k)) (C := R_Model) (T := F_Model) (N := 153) hx hb hT i_Model hown hK hP 0 rfl rfl 5 (by decide) (hT _ fl_Model_369) (fun _ h9 => h9) ((ls_ne (by decide)).trans hL5) d_Model_row_109 ?_
                  refine lv_imul hx hb d_Model_row_112 ?_
                  refine lv_topi (fun x283 e283 => ?_)
                  refine lv_aload_n hx hb d_Model_row_113 rfl (lv_at hl 3 rfl) ?_
                  refine va_get (D := (dC, dI)) (ci := 12) (v := .ref h_text) (C := R_Model) (T := F_Model) (N := 153) hx hb hT i_Model hown hK hP 0 rfl rfl 0 (by decide) (hT _ fl_Model_7) (fun _ h9 => h9) ((ls_ne (by decide)).trans ((hLf 0 (by decide) (by decide)).trans g_this_text)) d_Model_row_114 ?_
                  refine lv_iload_n hx hb d_Model_row_117 rfl (lv_at hl 2 rfl) ?_
                  refine va_iald hx hb hK hP 1 0 rfl rfl (vp_in_nI (by omega) (by decide)) d_Model_row_118 ?_
                  refine lv_topi (fun x284 e284 => ?_)
                  obtain rfl : x284 = f_text (a + k) := e284.trans (congrArg f_text (nI_clamp (by omega)))
                  refine lv_iadd hx hb d_Model_row_119 ?_
                  refine lv_topi (fun x285 e285 => ?_)
                  refine lv_bipush (v := 48) hx hb d_Model_row_120 (by decide) ?_
                  refine lv_isub hx hb d_Model_row_122 ?_
                  refine lv_topi (fun x286 e286 => ?_)
                  obtain rfl : x286 = nmb f_text a (k + 1) := by rw [e286, e285, e283]; rfl
                  refine va_put (D := (dC, dI)) (ci := 12) (v := .int (nmb f_text a (k + 1))) (ty := .int) (C := R_Model) (T := F_Model) (N := 153) hx hb hT i_Model t_Model t_Model_ok n_Model hown hK hP hD hS 0 rfl rfl 5 (by decide) (hT _ fl_Model_369) (fun _ h9 => h9) rfl (by decide +kernel) rfl rfl (by simp only [List.length_set, hLl]; decide) d_Model_row_123 (fun H locs hP hD hS => ?_)
                  have hP : va_P (dC, dI) cls_all [oc h_this 12 ((fsL0.set 6 (.long (pkd f_text a (k + 1)))).set 5 (.int (nmb f_text a (k + 1)))), ic h_text k_text 4000 f_text] H := hP
                  have hD : va_D A [oc h_this 12 ((fsL0.set 6 (.long (pkd f_text a (k + 1)))).set 5 (.int (nmb f_text a (k + 1)))), ic h_text k_text 4000 f_text] := hD
                  refine lv_iinc (v := (nI (a + k + 1))) (lv' := [(3, .int (nI (a + k + 1))), (5, .int 0), (4, .int 1), (0, .ref h_this), (1, .int (nI a)), (2, .int p2)]) hx hb d_Model_row_126 hl (k := 2) rfl (nI_add (a + k) 1) (by decide) rfl (fun ls hl => ?_)
                  refine lv_goto (tgt := 18) hx hb d_Model_row_129 (by decide) ?_
                  have hl : lv_has ls 8 [(3, .int (nI (a + (k + 1)))), (5, .int (sml f_text a (k + 1))), (4, .int (dgs f_text a (k + 1))), (0, .ref h_this), (1, .int (nI a)), (2, .int p2)] := by rw [hd, hs]; exact hl
                  exact ih (k + 1) (by omega) (he.trans (by rw [rl_y hy (by omega)]; rw [show a + (k + 1) = a + k + 1 by omega, show tz - a - (k + 1) = tz - a - k - 1 by omega]; omega)) (by omega) ((fsL0.set 6 (.long (pkd f_text a (k + 1)))).set 5 (.int (nmb f_text a (k + 1)))) (by first | exact hLl | (simp only [List.length_set]; exact hLl)) (fun j n6 n5 => ((ls_ne n5).trans ((ls_ne n6).trans (hLf j n6 n5)))) ((ls_ne (by decide)).trans (ls_eq (by simp only [List.length_set, hLl]; decide))) (ls_eq (by simp only [List.length_set, hLl]; decide)) _ _ hP hD hS ls (lv_sub hl [1, 2, 0, 3, 4, 5] rfl)
                · have hs : sml f_text a (k + 1) = 1 := (if_neg c267).trans (if_neg (nz hr277 c278))
                  refine lv_iconst (v := 1) hx hb d_Model_row_79 (by decide) ?_
                  refine lv_goto (tgt := 84) hx hb d_Model_row_80 (by decide) ?_
                  refine lv_istore (lv' := [(5, .int 1), (4, .int 1), (3, .int (nI (a + k))), (0, .ref h_this), (1, .int (nI a)), (2, .int p2)]) hx hb d_Model_row_84 hl (by decide) rfl (fun ls hl => ?_)
                  refine lv_aload_n hx hb d_Model_row_86 rfl (lv_at hl 3 rfl) ?_
                  refine lv_aload_n hx hb d_Model_row_87 rfl (lv_at hl 3 rfl) ?_
                  refine va_get (D := (dC, dI)) (ci := 12) (v := .long (pkd f_text a k)) (C := R_Model) (T := F_Model) (N := 153) hx hb hT i_Model hown hK hP 0 rfl rfl 6 (by decide) (hT _ fl_Model_365) (fun _ h9 => h9) hL6 d_Model_row_88 ?_
                  refine lv_bipush (v := 8) hx hb d_Model_row_91 (by decide) ?_
                  obtain ⟨x287, e287⟩ : ∃ z : Int64, (pkd f_text a k) <<< ((8 : Int32).toInt64 &&& 63) = z := ⟨_, rfl⟩
                  refine lv_lshl (v := x287) hx hb d_Model_row_93 e287 ?_
                  refine lv_aload_n hx hb d_Model_row_94 rfl (lv_at hl 3 rfl) ?_
                  refine va_get (D := (dC, dI)) (ci := 12) (v := .ref h_text) (C := R_Model) (T := F_Model) (N := 153) hx hb hT i_Model hown hK hP 0 rfl rfl 0 (by decide) (hT _ fl_Model_7) (fun _ h9 => h9) ((hLf 0 (by decide) (by decide)).trans g_this_text) d_Model_row_95 ?_
                  refine lv_iload_n hx hb d_Model_row_98 rfl (lv_at hl 2 rfl) ?_
                  refine va_iald hx hb hK hP 1 0 rfl rfl (vp_in_nI (by omega) (by decide)) d_Model_row_99 ?_
                  refine lv_topi (fun x288 e288 => ?_)
                  obtain rfl : x288 = f_text (a + k) := e288.trans (congrArg f_text (nI_clamp (by omega)))
                  obtain ⟨x289, e289⟩ : ∃ z : Int64, ((f_text (a + k)) : Int32).toInt64 = z := ⟨_, rfl⟩
                  refine lv_i2l (v := x289) hx hb d_Model_row_100 e289 ?_
                  refine lv_lor hx hb d_Model_row_101 ?_
                  refine lv_topl (fun x290 e290 => ?_)
                  obtain rfl : x290 = pkd f_text a (k + 1) := by rw [e290, ← e287, ← e289]; rfl
                  refine va_put (D := (dC, dI)) (ci := 12) (v := .long (pkd f_text a (k + 1))) (ty := .long) (C := R_Model) (T := F_Model) (N := 153) hx hb hT i_Model t_Model t_Model_ok n_Model hown hK hP hD hS 0 rfl rfl 6 (by decide) (hT _ fl_Model_365) (fun _ h9 => h9) rfl (by decide +kernel) rfl rfl (by simp only [List.length_set, hLl]; decide) d_Model_row_102 (fun H locs hP hD hS => ?_)
                  have hP : va_P (dC, dI) cls_all [oc h_this 12 (fsL0.set 6 (.long (pkd f_text a (k + 1)))), ic h_text k_text 4000 f_text] H := hP
                  have hD : va_D A [oc h_this 12 (fsL0.set 6 (.long (pkd f_text a (k + 1)))), ic h_text k_text 4000 f_text] := hD
                  refine lv_aload_n hx hb d_Model_row_105 rfl (lv_at hl 3 rfl) ?_
                  refine lv_bipush (v := 10) hx hb d_Model_row_106 (by decide) ?_
                  refine lv_aload_n hx hb d_Model_row_108 rfl (lv_at hl 3 rfl) ?_
                  refine va_get (D := (dC, dI)) (ci := 12) (v := .int (nmb f_text a k)) (C := R_Model) (T := F_Model) (N := 153) hx hb hT i_Model hown hK hP 0 rfl rfl 5 (by decide) (hT _ fl_Model_369) (fun _ h9 => h9) ((ls_ne (by decide)).trans hL5) d_Model_row_109 ?_
                  refine lv_imul hx hb d_Model_row_112 ?_
                  refine lv_topi (fun x291 e291 => ?_)
                  refine lv_aload_n hx hb d_Model_row_113 rfl (lv_at hl 3 rfl) ?_
                  refine va_get (D := (dC, dI)) (ci := 12) (v := .ref h_text) (C := R_Model) (T := F_Model) (N := 153) hx hb hT i_Model hown hK hP 0 rfl rfl 0 (by decide) (hT _ fl_Model_7) (fun _ h9 => h9) ((ls_ne (by decide)).trans ((hLf 0 (by decide) (by decide)).trans g_this_text)) d_Model_row_114 ?_
                  refine lv_iload_n hx hb d_Model_row_117 rfl (lv_at hl 2 rfl) ?_
                  refine va_iald hx hb hK hP 1 0 rfl rfl (vp_in_nI (by omega) (by decide)) d_Model_row_118 ?_
                  refine lv_topi (fun x292 e292 => ?_)
                  obtain rfl : x292 = f_text (a + k) := e292.trans (congrArg f_text (nI_clamp (by omega)))
                  refine lv_iadd hx hb d_Model_row_119 ?_
                  refine lv_topi (fun x293 e293 => ?_)
                  refine lv_bipush (v := 48) hx hb d_Model_row_120 (by decide) ?_
                  refine lv_isub hx hb d_Model_row_122 ?_
                  refine lv_topi (fun x294 e294 => ?_)
                  obtain rfl : x294 = nmb f_text a (k + 1) := by rw [e294, e293, e291]; rfl
                  refine va_put (D := (dC, dI)) (ci := 12) (v := .int (nmb f_text a (k + 1))) (ty := .int) (C := R_Model) (T := F_Model) (N := 153) hx hb hT i_Model t_Model t_Model_ok n_Model hown hK hP hD hS 0 rfl rfl 5 (by decide) (hT _ fl_Model_369) (fun _ h9 => h9) rfl (by decide +kernel) rfl rfl (by simp only [List.length_set, hLl]; decide) d_Model_row_123 (fun H locs hP hD hS => ?_)
                  have hP : va_P (dC, dI) cls_all [oc h_this 12 ((fsL0.set 6 (.long (pkd f_text a (k + 1)))).set 5 (.int (nmb f_text a (k + 1)))), ic h_text k_text 4000 f_text] H := hP
                  have hD : va_D A [oc h_this 12 ((fsL0.set 6 (.long (pkd f_text a (k + 1)))).set 5 (.int (nmb f_text a (k + 1)))), ic h_text k_text 4000 f_text] := hD
                  refine lv_iinc (v := (nI (a + k + 1))) (lv' := [(3, .int (nI (a + k + 1))), (5, .int 1), (4, .int 1), (0, .ref h_this), (1, .int (nI a)), (2, .int p2)]) hx hb d_Model_row_126 hl (k := 2) rfl (nI_add (a + k) 1) (by decide) rfl (fun ls hl => ?_)
                  refine lv_goto (tgt := 18) hx hb d_Model_row_129 (by decide) ?_
                  have hl : lv_has ls 8 [(3, .int (nI (a + (k + 1)))), (5, .int (sml f_text a (k + 1))), (4, .int (dgs f_text a (k + 1))), (0, .ref h_this), (1, .int (nI a)), (2, .int p2)] := by rw [hd, hs]; exact hl
                  exact ih (k + 1) (by omega) (he.trans (by rw [rl_y hy (by omega)]; rw [show a + (k + 1) = a + k + 1 by omega, show tz - a - (k + 1) = tz - a - k - 1 by omega]; omega)) (by omega) ((fsL0.set 6 (.long (pkd f_text a (k + 1)))).set 5 (.int (nmb f_text a (k + 1)))) (by first | exact hLl | (simp only [List.length_set]; exact hLl)) (fun j n6 n5 => ((ls_ne n5).trans ((ls_ne n6).trans (hLf j n6 n5)))) ((ls_ne (by decide)).trans (ls_eq (by simp only [List.length_set, hLl]; decide))) (ls_eq (by simp only [List.length_set, hLl]; decide)) _ _ hP hD hS ls (lv_sub hl [1, 2, 0, 3, 4, 5] rfl)
  exact loop (tz - a + 1) 0 (by omega) (by simp) (by omega) ((fs_this.set 6 (.long 0)).set 5 (.int 0)) (by first | exact len_this | (simp only [List.length_set]; exact len_this)) (fun j n6 n5 => ((ls_ne n5).trans ((ls_ne n6).trans rfl))) ((ls_ne (by decide)).trans (ls_eq (by simp only [List.length_set, len_this]; decide))) (ls_eq (by simp only [List.length_set, len_this]; decide)) _ _ hP hD hS ls (lv_sub hl [0, 1, 2, 3, 4, 5] rfl)
