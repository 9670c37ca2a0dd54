abbrev b_Source_init : ByteArray := prog_10_method_1_code
abbrev y_Source_init : MethodName := ⟨R_Source, "<init>", "()V"⟩
theorem co_Source_init : Cond.code y_Source_init b_Source_init 4 none ∈ lw_good := lg_in (tin_1 _ (List.mem_of_getElem? (i := 34) rfl)) rfl
abbrev w_Source_init : List Cond := Cond.code y_Source_init b_Source_init 4 none :: lw_good
theorem im_Source_init : Cond.instanceMethod y_Source_init ∈ lw_good := lg_right (i := 33) (by decide +kernel) rfl
theorem d_Source_init_0 : decode b_Source_init 0 = .ok (.aload_n 0, 1) := by decide +kernel
theorem d_Source_init_1 : decode b_Source_init 1 = .ok (.invokespecial 3, 3) := by decide +kernel
theorem ml_Source_3 : Cond.methodLink R_Source 3 objectInit ∈ lw_good := lg_right (i := 35) (by decide +kernel) rfl
theorem d_Source_init_4 : decode b_Source_init 4 = .ok (.aload_n 0, 1) := by decide +kernel
theorem d_Source_init_5 : decode b_Source_init 5 = .ok (.sipush 4008, 3) := by decide +kernel
theorem d_Source_init_8 : decode b_Source_init 8 = .ok (.newarray .int, 2) := by decide +kernel
theorem d_Source_init_10 : decode b_Source_init 10 = .ok (.putfield 11, 3) := by decide +kernel
theorem d_Source_init_13 : decode b_Source_init 13 = .ok (.aload_n 0, 1) := by decide +kernel
theorem d_Source_init_14 : decode b_Source_init 14 = .ok (.sipush 4008, 3) := by decide +kernel
theorem d_Source_init_17 : decode b_Source_init 17 = .ok (.newarray .int, 2) := by decide +kernel
theorem d_Source_init_19 : decode b_Source_init 19 = .ok (.putfield 15, 3) := by decide +kernel
theorem d_Source_init_22 : decode b_Source_init 22 = .ok (.aload_n 0, 1) := by decide +kernel
theorem d_Source_init_23 : decode b_Source_init 23 = .ok (.sipush 4008, 3) := by decide +kernel
theorem d_Source_init_26 : decode b_Source_init 26 = .ok (.newarray .int, 2) := by decide +kernel
theorem d_Source_init_28 : decode b_Source_init 28 = .ok (.putfield 18, 3) := by decide +kernel
theorem d_Source_init_31 : decode b_Source_init 31 = .ok (.aload_n 0, 1) := by decide +kernel
theorem d_Source_init_32 : decode b_Source_init 32 = .ok (.sipush 4008, 3) := by decide +kernel
theorem d_Source_init_35 : decode b_Source_init 35 = .ok (.newarray .int, 2) := by decide +kernel
theorem d_Source_init_37 : decode b_Source_init 37 = .ok (.putfield 21, 3) := by decide +kernel
theorem d_Source_init_40 : decode b_Source_init 40 = .ok (.aload_n 0, 1) := by decide +kernel
theorem d_Source_init_41 : decode b_Source_init 41 = .ok (.sipush 4008, 3) := by decide +kernel
theorem d_Source_init_44 : decode b_Source_init 44 = .ok (.newarray .int, 2) := by decide +kernel
theorem d_Source_init_46 : decode b_Source_init 46 = .ok (.putfield 24, 3) := by decide +kernel
theorem d_Source_init_49 : decode b_Source_init 49 = .ok (.aload_n 0, 1) := by decide +kernel
theorem d_Source_init_50 : decode b_Source_init 50 = .ok (.sipush 4008, 3) := by decide +kernel
theorem d_Source_init_53 : decode b_Source_init 53 = .ok (.newarray .int, 2) := by decide +kernel
theorem d_Source_init_55 : decode b_Source_init 55 = .ok (.putfield 27, 3) := by decide +kernel
theorem d_Source_init_58 : decode b_Source_init 58 = .ok (.aload_n 0, 1) := by decide +kernel
theorem d_Source_init_59 : decode b_Source_init 59 = .ok (.sipush 4008, 3) := by decide +kernel
theorem d_Source_init_62 : decode b_Source_init 62 = .ok (.newarray .int, 2) := by decide +kernel
theorem d_Source_init_64 : decode b_Source_init 64 = .ok (.putfield 30, 3) := by decide +kernel
theorem d_Source_init_67 : decode b_Source_init 67 = .ok (.aload_n 0, 1) := by decide +kernel
theorem d_Source_init_68 : decode b_Source_init 68 = .ok (.sipush 4008, 3) := by decide +kernel
theorem d_Source_init_71 : decode b_Source_init 71 = .ok (.newarray .int, 2) := by decide +kernel
theorem d_Source_init_73 : decode b_Source_init 73 = .ok (.putfield 33, 3) := by decide +kernel
theorem d_Source_init_76 : decode b_Source_init 76 = .ok (.aload_n 0, 1) := by decide +kernel
theorem d_Source_init_77 : decode b_Source_init 77 = .ok (.sipush 4001, 3) := by decide +kernel
theorem d_Source_init_80 : decode b_Source_init 80 = .ok (.newarray .int, 2) := by decide +kernel
theorem d_Source_init_82 : decode b_Source_init 82 = .ok (.putfield 36, 3) := by decide +kernel
theorem d_Source_init_85 : decode b_Source_init 85 = .ok (.aload_n 0, 1) := by decide +kernel
theorem d_Source_init_86 : decode b_Source_init 86 = .ok (.sipush 4001, 3) := by decide +kernel
theorem d_Source_init_89 : decode b_Source_init 89 = .ok (.newarray .int, 2) := by decide +kernel
theorem d_Source_init_91 : decode b_Source_init 91 = .ok (.putfield 39, 3) := by decide +kernel
theorem d_Source_init_94 : decode b_Source_init 94 = .ok (.aload_n 0, 1) := by decide +kernel
theorem d_Source_init_95 : decode b_Source_init 95 = .ok (.sipush 4001, 3) := by decide +kernel
theorem d_Source_init_98 : decode b_Source_init 98 = .ok (.newarray .long, 2) := by decide +kernel
theorem d_Source_init_100 : decode b_Source_init 100 = .ok (.putfield 42, 3) := by decide +kernel
theorem d_Source_init_103 : decode b_Source_init 103 = .ok (.aload_n 0, 1) := by decide +kernel
theorem d_Source_init_104 : decode b_Source_init 104 = .ok (.bipush 26, 2) := by decide +kernel
theorem d_Source_init_106 : decode b_Source_init 106 = .ok (.newarray .long, 2) := by decide +kernel
theorem d_Source_init_108 : decode b_Source_init 108 = .ok (.putfield 46, 3) := by decide +kernel
theorem fl_Source_46 : Cond.fieldLink R_Source 46 "PointerHouse$Source" "words" "[J" ∈ lw_good := lg_right (i := 229) (by decide +kernel) rfl
theorem d_Source_init_111 : decode b_Source_init 111 = .ok (.iconst 0, 1) := by decide +kernel
theorem d_Source_init_112 : decode b_Source_init 112 = .ok (.istore_n 1, 1) := by decide +kernel
theorem d_Source_init_113 : decode b_Source_init 113 = .ok (.iconst 0, 1) := by decide +kernel
theorem d_Source_init_114 : decode b_Source_init 114 = .ok (.istore_n 2, 1) := by decide +kernel
theorem d_Source_init_115 : decode b_Source_init 115 = .ok (.iconst 0, 1) := by decide +kernel
theorem d_Source_init_116 : decode b_Source_init 116 = .ok (.istore_n 3, 1) := by decide +kernel
theorem d_Source_init_117 : decode b_Source_init 117 = .ok (.iload_n 3, 1) := by decide +kernel
theorem d_Source_init_118 : decode b_Source_init 118 = .ok (.ldc 49, 2) := by decide +kernel
theorem d_Source_init_120 : decode b_Source_init 120 = .ok (.invokevirtual 51, 3) := by decide +kernel
theorem ml_Source_51 : Cond.methodLink R_Source 51 ⟨"java/lang/String", "length", "()I"⟩ ∈ lw_good := lg_right (i := 37) (by decide +kernel) rfl
theorem d_Source_init_123 : decode b_Source_init 123 = .ok (.if_icmp .ge 59, 3) := by decide +kernel
theorem d_Source_init_126 : decode b_Source_init 126 = .ok (.iload_n 1, 1) := by decide +kernel
theorem d_Source_init_127 : decode b_Source_init 127 = .ok (.aload_n 0, 1) := by decide +kernel
theorem d_Source_init_128 : decode b_Source_init 128 = .ok (.getfield 46, 3) := by decide +kernel
theorem d_Source_init_131 : decode b_Source_init 131 = .ok (.arraylength, 1) := by decide +kernel
theorem d_Source_init_132 : decode b_Source_init 132 = .ok (.if_icmp .ge 50, 3) := by decide +kernel
theorem d_Source_init_135 : decode b_Source_init 135 = .ok (.ldc 49, 2) := by decide +kernel
theorem d_Source_init_137 : decode b_Source_init 137 = .ok (.iload_n 3, 1) := by decide +kernel
theorem d_Source_init_138 : decode b_Source_init 138 = .ok (.invokevirtual 57, 3) := by decide +kernel
theorem ml_Source_57 : Cond.methodLink R_Source 57 ⟨"java/lang/String", "charAt", "(I)C"⟩ ∈ lw_good := lg_right (i := 47) (by decide +kernel) rfl
theorem d_Source_init_141 : decode b_Source_init 141 = .ok (.bipush 32, 2) := by decide +kernel
theorem d_Source_init_143 : decode b_Source_init 143 = .ok (.if_icmp .ne 33, 3) := by decide +kernel
theorem d_Source_init_146 : decode b_Source_init 146 = .ok (.aload_n 0, 1) := by decide +kernel
theorem d_Source_init_147 : decode b_Source_init 147 = .ok (.getfield 46, 3) := by decide +kernel
theorem d_Source_init_150 : decode b_Source_init 150 = .ok (.iload_n 1, 1) := by decide +kernel
theorem d_Source_init_151 : decode b_Source_init 151 = .ok (.ldc 49, 2) := by decide +kernel
theorem d_Source_init_153 : decode b_Source_init 153 = .ok (.iload_n 2, 1) := by decide +kernel
theorem d_Source_init_154 : decode b_Source_init 154 = .ok (.iload_n 3, 1) := by decide +kernel
theorem d_Source_init_155 : decode b_Source_init 155 = .ok (.invokevirtual 61, 3) := by decide +kernel
theorem ml_Source_61 : Cond.methodLink R_Source 61 ⟨"java/lang/String", "substring", "(II)Ljava/lang/String;"⟩ ∈ lw_good := lg_right (i := 85) (by decide +kernel) rfl
theorem d_Source_init_158 : decode b_Source_init 158 = .ok (.invokevirtual 65, 3) := by decide +kernel
theorem ml_Source_65 : Cond.methodLink R_Source 65 ⟨"java/lang/String", "toCharArray", "()[C"⟩ ∈ lw_good := lg_right (i := 173) (by decide +kernel) rfl
theorem d_Source_init_161 : decode b_Source_init 161 = .ok (.iconst 0, 1) := by decide +kernel
theorem d_Source_init_162 : decode b_Source_init 162 = .ok (.iload_n 3, 1) := by decide +kernel
theorem d_Source_init_163 : decode b_Source_init 163 = .ok (.iload_n 2, 1) := by decide +kernel
theorem d_Source_init_164 : decode b_Source_init 164 = .ok (.isub, 1) := by decide +kernel
theorem d_Source_init_165 : decode b_Source_init 165 = .ok (.invokestatic 69, 3) := by decide +kernel
theorem ml_Source_69 : Cond.methodLink R_Source 69 ⟨"PointerHouse$Source", "packed", "([CII)J"⟩ ∈ lw_good := lg_right (i := 189) (by decide +kernel) rfl
theorem d_Source_init_168 : decode b_Source_init 168 = .ok (.lastore, 1) := by decide +kernel
theorem d_Source_init_169 : decode b_Source_init 169 = .ok (.iinc 1 1, 3) := by decide +kernel
theorem d_Source_init_172 : decode b_Source_init 172 = .ok (.iload_n 3, 1) := by decide +kernel
theorem d_Source_init_173 : decode b_Source_init 173 = .ok (.iconst 1, 1) := by decide +kernel
theorem d_Source_init_174 : decode b_Source_init 174 = .ok (.iadd, 1) := by decide +kernel
theorem d_Source_init_175 : decode b_Source_init 175 = .ok (.istore_n 2, 1) := by decide +kernel
theorem d_Source_init_176 : decode b_Source_init 176 = .ok (.iinc 3 1, 3) := by decide +kernel
theorem d_Source_init_179 : decode b_Source_init 179 = .ok (.goto (-62), 3) := by decide +kernel
theorem d_Source_init_182 : decode b_Source_init 182 = .ok (.return_, 1) := by decide +kernel
/-- the words of the language: how many lie ahead of a place, where the last begins, and their numbers -/
def wc : Nat → Nat
  | 0 => 0
  | i + 1 => if s_ch 0 i = 32 then wc i + 1 else wc i
def wf : Nat → Nat
  | 0 => 0
  | i + 1 => if s_ch 0 i = 32 then i + 1 else wf i
def wl (i : Nat) : Nat := wf i + (i - wf i) - wf i
def wpk (i : Nat) : Int64 := pkd (infF (va_cpy (fun j => (s_byt.getD 0 []).getD j 0) (fun _ => 0) (wf i) 0 (wl i)) (fun _ => 0) (wl i)) 0 (i - wf i - 0)
def wt : Nat → Nat → Int64
  | 0 => fun _ => 0
  | i + 1 => if s_ch 0 i = 32 then vp_updL (wt i) (wc i) (wpk i) else wt i
theorem wc_s {i : Nat} (h : s_ch 0 i = 32) : wc (i + 1) = wc i + 1 := if_pos h
theorem wc_n {i : Nat} (h : ¬ s_ch 0 i = 32) : wc (i + 1) = wc i := if_neg h
theorem wf_s {i : Nat} (h : s_ch 0 i = 32) : wf (i + 1) = i + 1 := if_pos h
theorem wf_n {i : Nat} (h : ¬ s_ch 0 i = 32) : wf (i + 1) = wf i := if_neg h
theorem wt_s {i : Nat} (h : s_ch 0 i = 32) : wt (i + 1) = vp_updL (wt i) (wc i) (wpk i) := if_pos h
theorem wt_n {i : Nat} (h : ¬ s_ch 0 i = 32) : wt (i + 1) = wt i := if_neg h
theorem w_fact : ∀ i, i < 133 → wc i < 26 ∧ wf i ≤ i ∧ (s_ch 0 i = 32 → wf i < i ∧ i - wf i ≤ 8) := by decide +kernel

set_option maxHeartbeats 1000000 in
set_option maxRecDepth 100000 in
theorem c_Source_init (l : Launch) (dC : Nat → ClassId) (dI : Nat → Nat → Nat) (sz : Nat) (ad : Nat → Nat) (av : Nat → Nat) (h_this : Nat) : Met l y_Source_init w_Source_init ({ frames := 5, cells := 90, slots := 44613, locals := 156 } : Room) (va_Pc [.ref h_this] (fun U => U.heap.size = sz ∧ va_P (dC, dI) cls_all [oc h_this 8 ([.null, .null, .null, .null, .null, .null, .null, .null, .int 0, .null, .int 0, .null, .null, .null, .int 0, .null] : List Value)] U.heap ∧ va_K (dC, dI) cls_all [] U ∧ va_D (fun _ => True) [oc h_this 8 ([.null, .null, .null, .null, .null, .null, .null, .null, .int 0, .null, .int 0, .null, .null, .null, .int 0, .null] : List Value)] ∧ env0 ad av (va_A [oc h_this 8 ([.null, .null, .null, .null, .null, .null, .null, .null, .int 0, .null, .int 0, .null, .null, .null, .int 0, .null] : List Value)] sz) U U.heap)) (va_Qv (fun (_ : Unit) => True) (fun _ t => ∃ (hm' : Nat → Nat) (km' : Nat → ClassId), (True) ∧ va_P (dC, dI) cls_all [oc h_this 8 ([.ref (hm' 0), .ref (hm' 1), .ref (hm' 2), .ref (hm' 3), .ref (hm' 4), .ref (hm' 5), .ref (hm' 6), .ref (hm' 7), .int 0, .null, .int 0, .ref (hm' 8), .ref (hm' 9), .ref (hm' 10), .int 0, .ref (hm' 11)] : List Value), ic (hm' 0) (km' 0) 4008 (fun _ => 0), ic (hm' 1) (km' 1) 4008 (fun _ => 0), ic (hm' 2) (km' 2) 4008 (fun _ => 0), ic (hm' 3) (km' 3) 4008 (fun _ => 0), ic (hm' 4) (km' 4) 4008 (fun _ => 0), ic (hm' 5) (km' 5) 4008 (fun _ => 0), ic (hm' 6) (km' 6) 4008 (fun _ => 0), ic (hm' 7) (km' 7) 4008 (fun _ => 0), ic (hm' 8) (km' 8) 4001 (fun _ => 0), ic (hm' 9) (km' 9) 4001 (fun _ => 0), jc (hm' 10) (km' 10) 4001 (fun _ => 0), jc (hm' 11) (km' 11) 26 (wt 133)] t.heap ∧ va_K (dC, dI) cls_all [((km' 0), .int), ((km' 1), .int), ((km' 2), .int), ((km' 3), .int), ((km' 4), .int), ((km' 5), .int), ((km' 6), .int), ((km' 7), .int), ((km' 8), .int), ((km' 9), .int), ((km' 10), .long), ((km' 11), .long)] t ∧ va_D (va_A [oc h_this 8 ([.null, .null, .null, .null, .null, .null, .null, .null, .int 0, .null, .int 0, .null, .null, .null, .int 0, .null] : List Value)] sz) [oc h_this 8 ([.ref (hm' 0), .ref (hm' 1), .ref (hm' 2), .ref (hm' 3), .ref (hm' 4), .ref (hm' 5), .ref (hm' 6), .ref (hm' 7), .int 0, .null, .int 0, .ref (hm' 8), .ref (hm' 9), .ref (hm' 10), .int 0, .ref (hm' 11)] : List Value), ic (hm' 0) (km' 0) 4008 (fun _ => 0), ic (hm' 1) (km' 1) 4008 (fun _ => 0), ic (hm' 2) (km' 2) 4008 (fun _ => 0), ic (hm' 3) (km' 3) 4008 (fun _ => 0), ic (hm' 4) (km' 4) 4008 (fun _ => 0), ic (hm' 5) (km' 5) 4008 (fun _ => 0), ic (hm' 6) (km' 6) 4008 (fun _ => 0), ic (hm' 7) (km' 7) 4008 (fun _ => 0), ic (hm' 8) (km' 8) 4001 (fun _ => 0), ic (hm' 9) (km' 9) 4001 (fun _ => 0), jc (hm' 10) (km' 10) 4001 (fun _ => 0), jc (hm' 11) (km' 11) 26 (wt 133)]) (va_A [oc h_this 8 ([.null, .null, .null, .null, .null, .null, .null, .null, .int 0, .null, .int 0, .null, .null, .null, .int 0, .null] : List Value)] sz)) 90 44613 (va_A [oc h_this 8 ([.null, .null, .null, .null, .null, .null, .null, .null, .int 0, .null, .int 0, .null, .null, .null, .int 0, .null] : List Value)] sz) := by
  refine Met.ofW (cc := b_Source_init) (maxL := 4) (ret := none) (by decide) rfl ?_
  intro p e s m args below meth c s₁ B hml hv
  obtain ⟨rfl, hsz, hP, hK, hD0, henv⟩ := hv
  have hx := B.exec
  have hb := B.bytes
  have hr := B.returns
  have hT : ∀ w ∈ lw_good, w.before _ s = true := fun w h => atoms_spec (ws := w_Source_init) B.pre w (List.mem_cons_of_mem _ h)
  have hown : s.vm.findClass R_Source = some m.cls := findClass_of_methodNamed B.named
  have hlocks := B.notSynchronized
  have hin : meth.name = "<init>" := (name_of_methodNamed B.named B.method).1
  subst hsz
  have hD := hD0.self (sz := s.heap.size)
  generalize hAe : va_A [oc h_this 8 ([.null, .null, .null, .null, .null, .null, .null, .null, .int 0, .null, .int 0, .null, .null, .null, .int 0, .null] : List Value)] s.heap.size = A at hD henv ⊢
  have hA : ∀ q : Nat, s.heap.size ≤ q → A q := fun q h => by rw [← hAe]; exact Or.inr h
  have hS : va_S A s.heap s.heap [] := va_S.rf
  have hP : va_P (dC, dI) cls_all [oc h_this 8 ([.null, .null, .null, .null, .null, .null, .null, .null, .int 0, .null, .int 0, .null, .null, .null, .int 0, .null] : List Value)] s.heap := hP
  have hl := lv_entry ([.ref h_this]) (n := 4) (Nat.le_of_ble_eq_true rfl)
  rw [lg_entry_eq]
  generalize (lg_sl ([.ref h_this]) ++ List.replicate (4 - (lg_sl ([.ref h_this])).length) Slot.unset).toArray = ls at hl ⊢
  have hl : lv_has ls 4 [(0, .ref h_this)] := hl
  refine lv_aload_n hx hb d_Source_init_0 rfl (lv_at hl 0 rfl) ?_
  refine W.objInit hx hb hown (hT _ ml_Source_3) (hT _ im_objectInit) (hT _ co_objectInit) rfl (by rw [hml]; exact hl.1) rfl d_Source_init_1 (Nat.le_of_ble_eq_true rfl) (Nat.le_of_ble_eq_true rfl) ?_
  refine W.eq (g2 := F0 m 4 ls []) rfl ?_
  refine blk_arr (n := 4008) (N' := 4008) (a0 := (4008, .inl (fun _ => 0))) hx hb hT i_Source t_Source t_Source_ok n_Source hown hin hK hP hD hS hA rfl (lv_at hl 0 rfl) 0 (by decide) rfl rfl fl_Source_11 (Nat.le_of_ble_eq_true rfl) ac_int rfl (by decide +kernel) (fun _ => rfl) (by decide +kernel) (by decide +kernel) (by decide +kernel) (Nat.le_of_ble_eq_true rfl) (Nat.le_of_ble_eq_true rfl) d_Source_init_4 (fun h9 => lv_sipush (v := 4008) hx hb d_Source_init_5 (by decide) h9) d_Source_init_8 d_Source_init_10 (fun q1 k1 H locs hK hP hD hS => ?_)
  have hP : va_P (dC, dI) cls_all [oc h_this 8 ([.ref q1, .null, .null, .null, .null, .null, .null, .null, .int 0, .null, .int 0, .null, .null, .null, .int 0, .null] : List Value), ic q1 k1 4008 (fun _ => 0)] H := hP
  have hD : va_D A [oc h_this 8 ([.ref q1, .null, .null, .null, .null, .null, .null, .null, .int 0, .null, .int 0, .null, .null, .null, .int 0, .null] : List Value), ic q1 k1 4008 (fun _ => 0)] := hD
  have hK : va_K (dC, dI) cls_all [(k1, .int)] s := hK
  refine W.widen (k := 1) (n := 4008) (Nat.le_of_ble_eq_true rfl) (Nat.le_of_ble_eq_true rfl) ?_
  refine blk_arr (n := 4008) (N' := 4008) (a0 := (4008, .inl (fun _ => 0))) hx hb hT i_Source t_Source t_Source_ok n_Source hown hin hK hP hD hS hA rfl (lv_at hl 0 rfl) 1 (by decide) rfl rfl fl_Source_15 (Nat.le_of_ble_eq_true rfl) ac_int rfl (by decide +kernel) (fun _ => rfl) (by decide +kernel) (by decide +kernel) (by decide +kernel) (Nat.le_of_ble_eq_true rfl) (Nat.le_of_ble_eq_true rfl) d_Source_init_13 (fun h9 => lv_sipush (v := 4008) hx hb d_Source_init_14 (by decide) h9) d_Source_init_17 d_Source_init_19 (fun q2 k2 H locs hK hP hD hS => ?_)
  have hP : va_P (dC, dI) cls_all [oc h_this 8 ([.ref q1, .ref q2, .null, .null, .null, .null, .null, .null, .int 0, .null, .int 0, .null, .null, .null, .int 0, .null] : List Value), ic q1 k1 4008 (fun _ => 0), ic q2 k2 4008 (fun _ => 0)] H := hP
  have hD : va_D A [oc h_this 8 ([.ref q1, .ref q2, .null, .null, .null, .null, .null, .null, .int 0, .null, .int 0, .null, .null, .null, .int 0, .null] : List Value), ic q1 k1 4008 (fun _ => 0), ic q2 k2 4008 (fun _ => 0)] := hD
  have hK : va_K (dC, dI) cls_all [(k1, .int), (k2, .int)] s := hK
  refine W.widen (k := 2) (n := 8016) (Nat.le_of_ble_eq_true rfl) (Nat.le_of_ble_eq_true rfl) ?_
  refine blk_arr (n := 4008) (N' := 4008) (a0 := (4008, .inl (fun _ => 0))) hx hb hT i_Source t_Source t_Source_ok n_Source hown hin hK hP hD hS hA rfl (lv_at hl 0 rfl) 2 (by decide) rfl rfl fl_Source_18 (Nat.le_of_ble_eq_true rfl) ac_int rfl (by decide +kernel) (fun _ => rfl) (by decide +kernel) (by decide +kernel) (by decide +kernel) (Nat.le_of_ble_eq_true rfl) (Nat.le_of_ble_eq_true rfl) d_Source_init_22 (fun h9 => lv_sipush (v := 4008) hx hb d_Source_init_23 (by decide) h9) d_Source_init_26 d_Source_init_28 (fun q3 k3 H locs hK hP hD hS => ?_)
  have hP : va_P (dC, dI) cls_all [oc h_this 8 ([.ref q1, .ref q2, .ref q3, .null, .null, .null, .null, .null, .int 0, .null, .int 0, .null, .null, .null, .int 0, .null] : List Value), ic q1 k1 4008 (fun _ => 0), ic q2 k2 4008 (fun _ => 0), ic q3 k3 4008 (fun _ => 0)] H := hP
  have hD : va_D A [oc h_this 8 ([.ref q1, .ref q2, .ref q3, .null, .null, .null, .null, .null, .int 0, .null, .int 0, .null, .null, .null, .int 0, .null] : List Value), ic q1 k1 4008 (fun _ => 0), ic q2 k2 4008 (fun _ => 0), ic q3 k3 4008 (fun _ => 0)] := hD
  have hK : va_K (dC, dI) cls_all [(k1, .int), (k2, .int), (k3, .int)] s := hK
  refine W.widen (k := 3) (n := 12024) (Nat.le_of_ble_eq_true rfl) (Nat.le_of_ble_eq_true rfl) ?_
  refine blk_arr (n := 4008) (N' := 4008) (a0 := (4008, .inl (fun _ => 0))) hx hb hT i_Source t_Source t_Source_ok n_Source hown hin hK hP hD hS hA rfl (lv_at hl 0 rfl) 3 (by decide) rfl rfl fl_Source_21 (Nat.le_of_ble_eq_true rfl) ac_int rfl (by decide +kernel) (fun _ => rfl) (by decide +kernel) (by decide +kernel) (by decide +kernel) (Nat.le_of_ble_eq_true rfl) (Nat.le_of_ble_eq_true rfl) d_Source_init_31 (fun h9 => lv_sipush (v := 4008) hx hb d_Source_init_32 (by decide) h9) d_Source_init_35 d_Source_init_37 (fun q4 k4 H locs hK hP hD hS => ?_)
  have hP : va_P (dC, dI) cls_all [oc h_this 8 ([.ref q1, .ref q2, .ref q3, .ref q4, .null, .null, .null, .null, .int 0, .null, .int 0, .null, .null, .null, .int 0, .null] : List Value), ic q1 k1 4008 (fun _ => 0), ic q2 k2 4008 (fun _ => 0), ic q3 k3 4008 (fun _ => 0), ic q4 k4 4008 (fun _ => 0)] H := hP
  have hD : va_D A [oc h_this 8 ([.ref q1, .ref q2, .ref q3, .ref q4, .null, .null, .null, .null, .int 0, .null, .int 0, .null, .null, .null, .int 0, .null] : List Value), ic q1 k1 4008 (fun _ => 0), ic q2 k2 4008 (fun _ => 0), ic q3 k3 4008 (fun _ => 0), ic q4 k4 4008 (fun _ => 0)] := hD
  have hK : va_K (dC, dI) cls_all [(k1, .int), (k2, .int), (k3, .int), (k4, .int)] s := hK
  refine W.widen (k := 4) (n := 16032) (Nat.le_of_ble_eq_true rfl) (Nat.le_of_ble_eq_true rfl) ?_
  refine blk_arr (n := 4008) (N' := 4008) (a0 := (4008, .inl (fun _ => 0))) hx hb hT i_Source t_Source t_Source_ok n_Source hown hin hK hP hD hS hA rfl (lv_at hl 0 rfl) 4 (by decide) rfl rfl fl_Source_24 (Nat.le_of_ble_eq_true rfl) ac_int rfl (by decide +kernel) (fun _ => rfl) (by decide +kernel) (by decide +kernel) (by decide +kernel) (Nat.le_of_ble_eq_true rfl) (Nat.le_of_ble_eq_true rfl) d_Source_init_40 (fun h9 => lv_sipush (v := 4008) hx hb d_Source_init_41 (by decide) h9) d_Source_init_44 d_Source_init_46 (fun q5 k5 H locs hK hP hD hS => ?_)
  have hP : va_P (dC, dI) cls_all [oc h_this 8 ([.ref q1, .ref q2, .ref q3, .ref q4, .ref q5, .null, .null, .null, .int 0, .null, .int 0, .null, .null, .null, .int 0, .null] : List Value), ic q1 k1 4008 (fun _ => 0), ic q2 k2 4008 (fun _ => 0), ic q3 k3 4008 (fun _ => 0), ic q4 k4 4008 (fun _ => 0), ic q5 k5 4008 (fun _ => 0)] H := hP
  have hD : va_D A [oc h_this 8 ([.ref q1, .ref q2, .ref q3, .ref q4, .ref q5, .null, .null, .null, .int 0, .null, .int 0, .null, .null, .null, .int 0, .null] : List Value), ic q1 k1 4008 (fun _ => 0), ic q2 k2 4008 (fun _ => 0), ic q3 k3 4008 (fun _ => 0), ic q4 k4 4008 (fun _ => 0), ic q5 k5 4008 (fun _ => 0)] := hD
  have hK : va_K (dC, dI) cls_all [(k1, .int), (k2, .int), (k3, .int), (k4, .int), (k5, .int)] s := hK
  refine W.widen (k := 5) (n := 20040) (Nat.le_of_ble_eq_true rfl) (Nat.le_of_ble_eq_true rfl) ?_
  refine blk_arr (n := 4008) (N' := 4008) (a0 := (4008, .inl (fun _ => 0))) hx hb hT i_Source t_Source t_Source_ok n_Source hown hin hK hP hD hS hA rfl (lv_at hl 0 rfl) 5 (by decide) rfl rfl fl_Source_27 (Nat.le_of_ble_eq_true rfl) ac_int rfl (by decide +kernel) (fun _ => rfl) (by decide +kernel) (by decide +kernel) (by decide +kernel) (Nat.le_of_ble_eq_true rfl) (Nat.le_of_ble_eq_true rfl) d_Source_init_49 (fun h9 => lv_sipush (v := 4008) hx hb d_Source_init_50 (by decide) h9) d_Source_init_53 d_Source_init_55 (fun q6 k6 H locs hK hP hD hS => ?_)
  have hP : va_P (dC, dI) cls_all [oc h_this 8 ([.ref q1, .ref q2, .ref q3, .ref q4, .ref q5, .ref q6, .null, .null, .int 0, .null, .int 0, .null, .null, .null, .int 0, .null] : List Value), ic q1 k1 4008 (fun _ => 0), ic q2 k2 4008 (fun _ => 0), ic q3 k3 4008 (fun _ => 0), ic q4 k4 4008 (fun _ => 0), ic q5 k5 4008 (fun _ => 0), ic q6 k6 4008 (fun _ => 0)] H := hP
  have hD : va_D A [oc h_this 8 ([.ref q1, .ref q2, .ref q3, .ref q4, .ref q5, .ref q6, .null, .null, .int 0, .null, .int 0, .null, .null, .null, .int 0, .null] : List Value), ic q1 k1 4008 (fun _ => 0), ic q2 k2 4008 (fun _ => 0), ic q3 k3 4008 (fun _ => 0), ic q4 k4 4008 (fun _ => 0), ic q5 k5 4008 (fun _ => 0), ic q6 k6 4008 (fun _ => 0)] := hD
  have hK : va_K (dC, dI) cls_all [(k1, .int), (k2, .int), (k3, .int), (k4, .int), (k5, .int), (k6, .int)] s := hK
  refine W.widen (k := 6) (n := 24048) (Nat.le_of_ble_eq_true rfl) (Nat.le_of_ble_eq_true rfl) ?_
  refine blk_arr (n := 4008) (N' := 4008) (a0 := (4008, .inl (fun _ => 0))) hx hb hT i_Source t_Source t_Source_ok n_Source hown hin hK hP hD hS hA rfl (lv_at hl 0 rfl) 6 (by decide) rfl rfl fl_Source_30 (Nat.le_of_ble_eq_true rfl) ac_int rfl (by decide +kernel) (fun _ => rfl) (by decide +kernel) (by decide +kernel) (by decide +kernel) (Nat.le_of_ble_eq_true rfl) (Nat.le_of_ble_eq_true rfl) d_Source_init_58 (fun h9 => lv_sipush (v := 4008) hx hb d_Source_init_59 (by decide) h9) d_Source_init_62 d_Source_init_64 (fun q7 k7 H locs hK hP hD hS => ?_)
  have hP : va_P (dC, dI) cls_all [oc h_this 8 ([.ref q1, .ref q2, .ref q3, .ref q4, .ref q5, .ref q6, .ref q7, .null, .int 0, .null, .int 0, .null, .null, .null, .int 0, .null] : List Value), ic q1 k1 4008 (fun _ => 0), ic q2 k2 4008 (fun _ => 0), ic q3 k3 4008 (fun _ => 0), ic q4 k4 4008 (fun _ => 0), ic q5 k5 4008 (fun _ => 0), ic q6 k6 4008 (fun _ => 0), ic q7 k7 4008 (fun _ => 0)] H := hP
  have hD : va_D A [oc h_this 8 ([.ref q1, .ref q2, .ref q3, .ref q4, .ref q5, .ref q6, .ref q7, .null, .int 0, .null, .int 0, .null, .null, .null, .int 0, .null] : List Value), ic q1 k1 4008 (fun _ => 0), ic q2 k2 4008 (fun _ => 0), ic q3 k3 4008 (fun _ => 0), ic q4 k4 4008 (fun _ => 0), ic q5 k5 4008 (fun _ => 0), ic q6 k6 4008 (fun _ => 0), ic q7 k7 4008 (fun _ => 0)] := hD
  have hK : va_K (dC, dI) cls_all [(k1, .int), (k2, .int), (k3, .int), (k4, .int), (k5, .int), (k6, .int), (k7, .int)] s := hK
  refine W.widen (k := 7) (n := 28056) (Nat.le_of_ble_eq_true rfl) (Nat.le_of_ble_eq_true rfl) ?_
  refine blk_arr (n := 4008) (N' := 4008) (a0 := (4008, .inl (fun _ => 0))) hx hb hT i_Source t_Source t_Source_ok n_Source hown hin hK hP hD hS hA rfl (lv_at hl 0 rfl) 7 (by decide) rfl rfl fl_Source_33 (Nat.le_of_ble_eq_true rfl) ac_int rfl (by decide +kernel) (fun _ => rfl) (by decide +kernel) (by decide +kernel) (by decide +kernel) (Nat.le_of_ble_eq_true rfl) (Nat.le_of_ble_eq_true rfl) d_Source_init_67 (fun h9 => lv_sipush (v := 4008) hx hb d_Source_init_68 (by decide) h9) d_Source_init_71 d_Source_init_73 (fun q8 k8 H locs hK hP hD hS => ?_)
  have hP : va_P (dC, dI) cls_all [oc h_this 8 ([.ref q1, .ref q2, .ref q3, .ref q4, .ref q5, .ref q6, .ref q7, .ref q8, .int 0, .null, .int 0, .null, .null, .null, .int 0, .null] : List Value), ic q1 k1 4008 (fun _ => 0), ic q2 k2 4008 (fun _ => 0), ic q3 k3 4008 (fun _ => 0), ic q4 k4 4008 (fun _ => 0), ic q5 k5 4008 (fun _ => 0), ic q6 k6 4008 (fun _ => 0), ic q7 k7 4008 (fun _ => 0), ic q8 k8 4008 (fun _ => 0)] H := hP
  have hD : va_D A [oc h_this 8 ([.ref q1, .ref q2, .ref q3, .ref q4, .ref q5, .ref q6, .ref q7, .ref q8, .int 0, .null, .int 0, .null, .null, .null, .int 0, .null] : List Value), ic q1 k1 4008 (fun _ => 0), ic q2 k2 4008 (fun _ => 0), ic q3 k3 4008 (fun _ => 0), ic q4 k4 4008 (fun _ => 0), ic q5 k5 4008 (fun _ => 0), ic q6 k6 4008 (fun _ => 0), ic q7 k7 4008 (fun _ => 0), ic q8 k8 4008 (fun _ => 0)] := hD
  have hK : va_K (dC, dI) cls_all [(k1, .int), (k2, .int), (k3, .int), (k4, .int), (k5, .int), (k6, .int), (k7, .int), (k8, .int)] s := hK
  refine W.widen (k := 8) (n := 32064) (Nat.le_of_ble_eq_true rfl) (Nat.le_of_ble_eq_true rfl) ?_
  refine blk_arr (n := 4001) (N' := 4001) (a0 := (4001, .inl (fun _ => 0))) hx hb hT i_Source t_Source t_Source_ok n_Source hown hin hK hP hD hS hA rfl (lv_at hl 0 rfl) 11 (by decide) rfl rfl fl_Source_36 (Nat.le_of_ble_eq_true rfl) ac_int rfl (by decide +kernel) (fun _ => rfl) (by decide +kernel) (by decide +kernel) (by decide +kernel) (Nat.le_of_ble_eq_true rfl) (Nat.le_of_ble_eq_true rfl) d_Source_init_76 (fun h9 => lv_sipush (v := 4001) hx hb d_Source_init_77 (by decide) h9) d_Source_init_80 d_Source_init_82 (fun q9 k9 H locs hK hP hD hS => ?_)
  have hP : va_P (dC, dI) cls_all [oc h_this 8 ([.ref q1, .ref q2, .ref q3, .ref q4, .ref q5, .ref q6, .ref q7, .ref q8, .int 0, .null, .int 0, .ref q9, .null, .null, .int 0, .null] : List Value), ic q1 k1 4008 (fun _ => 0), ic q2 k2 4008 (fun _ => 0), ic q3 k3 4008 (fun _ => 0), ic q4 k4 4008 (fun _ => 0), ic q5 k5 4008 (fun _ => 0), ic q6 k6 4008 (fun _ => 0), ic q7 k7 4008 (fun _ => 0), ic q8 k8 4008 (fun _ => 0), ic q9 k9 4001 (fun _ => 0)] H := hP
  have hD : va_D A [oc h_this 8 ([.ref q1, .ref q2, .ref q3, .ref q4, .ref q5, .ref q6, .ref q7, .ref q8, .int 0, .null, .int 0, .ref q9, .null, .null, .int 0, .null] : List Value), ic q1 k1 4008 (fun _ => 0), ic q2 k2 4008 (fun _ => 0), ic q3 k3 4008 (fun _ => 0), ic q4 k4 4008 (fun _ => 0), ic q5 k5 4008 (fun _ => 0), ic q6 k6 4008 (fun _ => 0), ic q7 k7 4008 (fun _ => 0), ic q8 k8 4008 (fun _ => 0), ic q9 k9 4001 (fun _ => 0)] := hD
  have hK : va_K (dC, dI) cls_all [(k1, .int), (k2, .int), (k3, .int), (k4, .int), (k5, .int), (k6, .int), (k7, .int), (k8, .int), (k9, .int)] s := hK
  refine W.widen (k := 9) (n := 36065) (Nat.le_of_ble_eq_true rfl) (Nat.le_of_ble_eq_true rfl) ?_
  refine blk_arr (n := 4001) (N' := 4001) (a0 := (4001, .inl (fun _ => 0))) hx hb hT i_Source t_Source t_Source_ok n_Source hown hin hK hP hD hS hA rfl (lv_at hl 0 rfl) 12 (by decide) rfl rfl fl_Source_39 (Nat.le_of_ble_eq_true rfl) ac_int rfl (by decide +kernel) (fun _ => rfl) (by decide +kernel) (by decide +kernel) (by decide +kernel) (Nat.le_of_ble_eq_true rfl) (Nat.le_of_ble_eq_true rfl) d_Source_init_85 (fun h9 => lv_sipush (v := 4001) hx hb d_Source_init_86 (by decide) h9) d_Source_init_89 d_Source_init_91 (fun q10 k10 H locs hK hP hD hS => ?_)
  have hP : va_P (dC, dI) cls_all [oc h_this 8 ([.ref q1, .ref q2, .ref q3, .ref q4, .ref q5, .ref q6, .ref q7, .ref q8, .int 0, .null, .int 0, .ref q9, .ref q10, .null, .int 0, .null] : List Value), ic q1 k1 4008 (fun _ => 0), ic q2 k2 4008 (fun _ => 0), ic q3 k3 4008 (fun _ => 0), ic q4 k4 4008 (fun _ => 0), ic q5 k5 4008 (fun _ => 0), ic q6 k6 4008 (fun _ => 0), ic q7 k7 4008 (fun _ => 0), ic q8 k8 4008 (fun _ => 0), ic q9 k9 4001 (fun _ => 0), ic q10 k10 4001 (fun _ => 0)] H := hP
  have hD : va_D A [oc h_this 8 ([.ref q1, .ref q2, .ref q3, .ref q4, .ref q5, .ref q6, .ref q7, .ref q8, .int 0, .null, .int 0, .ref q9, .ref q10, .null, .int 0, .null] : List Value), ic q1 k1 4008 (fun _ => 0), ic q2 k2 4008 (fun _ => 0), ic q3 k3 4008 (fun _ => 0), ic q4 k4 4008 (fun _ => 0), ic q5 k5 4008 (fun _ => 0), ic q6 k6 4008 (fun _ => 0), ic q7 k7 4008 (fun _ => 0), ic q8 k8 4008 (fun _ => 0), ic q9 k9 4001 (fun _ => 0), ic q10 k10 4001 (fun _ => 0)] := hD
  have hK : va_K (dC, dI) cls_all [(k1, .int), (k2, .int), (k3, .int), (k4, .int), (k5, .int), (k6, .int), (k7, .int), (k8, .int), (k9, .int), (k10, .int)] s := hK
  refine W.widen (k := 10) (n := 40066) (Nat.le_of_ble_eq_true rfl) (Nat.le_of_ble_eq_true rfl) ?_
  refine blk_arr (n := 4001) (N' := 4001) (a0 := (4001, .inr (.inl (fun _ => 0)))) hx hb hT i_Source t_Source t_Source_ok n_Source hown hin hK hP hD hS hA rfl (lv_at hl 0 rfl) 13 (by decide) rfl rfl fl_Source_42 (Nat.le_of_ble_eq_true rfl) ac_long rfl (by decide +kernel) (fun _ => rfl) (by decide +kernel) (by decide +kernel) (by decide +kernel) (Nat.le_of_ble_eq_true rfl) (Nat.le_of_ble_eq_true rfl) d_Source_init_94 (fun h9 => lv_sipush (v := 4001) hx hb d_Source_init_95 (by decide) h9) d_Source_init_98 d_Source_init_100 (fun q11 k11 H locs hK hP hD hS => ?_)
  have hP : va_P (dC, dI) cls_all [oc h_this 8 ([.ref q1, .ref q2, .ref q3, .ref q4, .ref q5, .ref q6, .ref q7, .ref q8, .int 0, .null, .int 0, .ref q9, .ref q10, .ref q11, .int 0, .null] : List Value), ic q1 k1 4008 (fun _ => 0), ic q2 k2 4008 (fun _ => 0), ic q3 k3 4008 (fun _ => 0), ic q4 k4 4008 (fun _ => 0), ic q5 k5 4008 (fun _ => 0), ic q6 k6 4008 (fun _ => 0), ic q7 k7 4008 (fun _ => 0), ic q8 k8 4008 (fun _ => 0), ic q9 k9 4001 (fun _ => 0), ic q10 k10 4001 (fun _ => 0), jc q11 k11 4001 (fun _ => 0)] H := hP
  have hD : va_D A [oc h_this 8 ([.ref q1, .ref q2, .ref q3, .ref q4, .ref q5, .ref q6, .ref q7, .ref q8, .int 0, .null, .int 0, .ref q9, .ref q10, .ref q11, .int 0, .null] : List Value), ic q1 k1 4008 (fun _ => 0), ic q2 k2 4008 (fun _ => 0), ic q3 k3 4008 (fun _ => 0), ic q4 k4 4008 (fun _ => 0), ic q5 k5 4008 (fun _ => 0), ic q6 k6 4008 (fun _ => 0), ic q7 k7 4008 (fun _ => 0), ic q8 k8 4008 (fun _ => 0), ic q9 k9 4001 (fun _ => 0), ic q10 k10 4001 (fun _ => 0), jc q11 k11 4001 (fun _ => 0)] := hD
  have hK : va_K (dC, dI) cls_all [(k1, .int), (k2, .int), (k3, .int), (k4, .int), (k5, .int), (k6, .int), (k7, .int), (k8, .int), (k9, .int), (k10, .int), (k11, .long)] s := hK
  refine W.widen (k := 11) (n := 44067) (Nat.le_of_ble_eq_true rfl) (Nat.le_of_ble_eq_true rfl) ?_
  refine blk_arr (n := 26) (N' := 26) (a0 := (26, .inr (.inl (fun _ => 0)))) hx hb hT i_Source t_Source t_Source_ok n_Source hown hin hK hP hD hS hA rfl (lv_at hl 0 rfl) 15 (by decide) rfl rfl fl_Source_46 (Nat.le_of_ble_eq_true rfl) ac_long rfl (by decide +kernel) (fun _ => rfl) (by decide +kernel) (by decide +kernel) (by decide +kernel) (Nat.le_of_ble_eq_true rfl) (Nat.le_of_ble_eq_true rfl) d_Source_init_103 (fun h9 => lv_bipush (v := 26) hx hb d_Source_init_104 (by decide) h9) d_Source_init_106 d_Source_init_108 (fun q12 k12 H locs hK hP hD hS => ?_)
  have hP : va_P (dC, dI) cls_all [oc h_this 8 ([.ref q1, .ref q2, .ref q3, .ref q4, .ref q5, .ref q6, .ref q7, .ref q8, .int 0, .null, .int 0, .ref q9, .ref q10, .ref q11, .int 0, .ref q12] : List Value), ic q1 k1 4008 (fun _ => 0), ic q2 k2 4008 (fun _ => 0), ic q3 k3 4008 (fun _ => 0), ic q4 k4 4008 (fun _ => 0), ic q5 k5 4008 (fun _ => 0), ic q6 k6 4008 (fun _ => 0), ic q7 k7 4008 (fun _ => 0), ic q8 k8 4008 (fun _ => 0), ic q9 k9 4001 (fun _ => 0), ic q10 k10 4001 (fun _ => 0), jc q11 k11 4001 (fun _ => 0), jc q12 k12 26 (fun _ => 0)] H := hP
  have hD : va_D A [oc h_this 8 ([.ref q1, .ref q2, .ref q3, .ref q4, .ref q5, .ref q6, .ref q7, .ref q8, .int 0, .null, .int 0, .ref q9, .ref q10, .ref q11, .int 0, .ref q12] : List Value), ic q1 k1 4008 (fun _ => 0), ic q2 k2 4008 (fun _ => 0), ic q3 k3 4008 (fun _ => 0), ic q4 k4 4008 (fun _ => 0), ic q5 k5 4008 (fun _ => 0), ic q6 k6 4008 (fun _ => 0), ic q7 k7 4008 (fun _ => 0), ic q8 k8 4008 (fun _ => 0), ic q9 k9 4001 (fun _ => 0), ic q10 k10 4001 (fun _ => 0), jc q11 k11 4001 (fun _ => 0), jc q12 k12 26 (fun _ => 0)] := hD
  have hK : va_K (dC, dI) cls_all [(k1, .int), (k2, .int), (k3, .int), (k4, .int), (k5, .int), (k6, .int), (k7, .int), (k8, .int), (k9, .int), (k10, .int), (k11, .long), (k12, .long)] s := hK
  refine W.widen (k := 12) (n := 44093) (Nat.le_of_ble_eq_true rfl) (Nat.le_of_ble_eq_true rfl) ?_
  refine lv_iconst (v := 0) hx hb d_Source_init_111 (by decide) ?_
  refine lv_istore_n (lv' := [(1, .int 0), (0, .ref h_this)]) hx hb d_Source_init_112 rfl hl (by decide) rfl (fun ls hl => ?_)
  refine lv_iconst (v := 0) hx hb d_Source_init_113 (by decide) ?_
  refine lv_istore_n (lv' := [(2, .int 0), (1, .int 0), (0, .ref h_this)]) hx hb d_Source_init_114 rfl hl (by decide) rfl (fun ls hl => ?_)
  refine lv_iconst (v := 0) hx hb d_Source_init_115 (by decide) ?_
  refine lv_istore_n (lv' := [(3, .int 0), (2, .int 0), (1, .int 0), (0, .ref h_this)]) hx hb d_Source_init_116 rfl hl (by decide) rfl (fun ls hl => ?_)
  have loop : ∀ (nn : Nat) (i : Nat), i ≤ 133 → wc i ≤ 26 → 133 - i < nn → ∀ (H : Heap) (locs : List Loc), va_P (dC, dI) cls_all [oc h_this 8 ([.ref q1, .ref q2, .ref q3, .ref q4, .ref q5, .ref q6, .ref q7, .ref q8, .int 0, .null, .int 0, .ref q9, .ref q10, .ref q11, .int 0, .ref q12] : List Value), ic q1 k1 4008 (fun _ => 0), ic q2 k2 4008 (fun _ => 0), ic q3 k3 4008 (fun _ => 0), ic q4 k4 4008 (fun _ => 0), ic q5 k5 4008 (fun _ => 0), ic q6 k6 4008 (fun _ => 0), ic q7 k7 4008 (fun _ => 0), ic q8 k8 4008 (fun _ => 0), ic q9 k9 4001 (fun _ => 0), ic q10 k10 4001 (fun _ => 0), jc q11 k11 4001 (fun _ => 0), jc q12 k12 26 (wt i)] H → va_D A [oc h_this 8 ([.ref q1, .ref q2, .ref q3, .ref q4, .ref q5, .ref q6, .ref q7, .ref q8, .int 0, .null, .int 0, .ref q9, .ref q10, .ref q11, .int 0, .ref q12] : List Value), ic q1 k1 4008 (fun _ => 0), ic q2 k2 4008 (fun _ => 0), ic q3 k3 4008 (fun _ => 0), ic q4 k4 4008 (fun _ => 0), ic q5 k5 4008 (fun _ => 0), ic q6 k6 4008 (fun _ => 0), ic q7 k7 4008 (fun _ => 0), ic q8 k8 4008 (fun _ => 0), ic q9 k9 4001 (fun _ => 0), ic q10 k10 4001 (fun _ => 0), jc q11 k11 4001 (fun _ => 0), jc q12 k12 26 (wt i)] → va_S A s.heap H locs → ∀ (ls : Array Slot), lv_has ls 4 [(3, .int (nI (i))), (2, .int (nI (wf i))), (1, .int (nI (wc i))), (0, .ref h_this)] → W p l e (headSpec w_Source_init ({ frames := 5, cells := 90, slots := 44613, locals := 156 } : Room)).room s m ([.ref h_this] : List Value).toArray below meth c H locs (12 + 3 * wc i) (44093 + 20 * wc i) (MQ below (va_Qv (fun (_ : Unit) => True) (fun _ t => ∃ (hm' : Nat → Nat) (km' : Nat → ClassId), (True) ∧ va_P (dC, dI) cls_all [oc h_this 8 ([.ref (hm' 0), .ref (hm' 1), .ref (hm' 2), .ref (hm' 3), .ref (hm' 4), .ref (hm' 5), .ref (hm' 6), .ref (hm' 7), .int 0, .null, .int 0, .ref (hm' 8), .ref (hm' 9), .ref (hm' 10), .int 0, .ref (hm' 11)] : List Value), ic (hm' 0) (km' 0) 4008 (fun _ => 0), ic (hm' 1) (km' 1) 4008 (fun _ => 0), ic (hm' 2) (km' 2) 4008 (fun _ => 0), ic (hm' 3) (km' 3) 4008 (fun _ => 0), ic (hm' 4) (km' 4) 4008 (fun _ => 0), ic (hm' 5) (km' 5) 4008 (fun _ => 0), ic (hm' 6) (km' 6) 4008 (fun _ => 0), ic (hm' 7) (km' 7) 4008 (fun _ => 0), ic (hm' 8) (km' 8) 4001 (fun _ => 0), ic (hm' 9) (km' 9) 4001 (fun _ => 0), jc (hm' 10) (km' 10) 4001 (fun _ => 0), jc (hm' 11) (km' 11) 26 (wt 133)] t.heap ∧ va_K (dC, dI) cls_all [((km' 0), .int), ((km' 1), .int), ((km' 2), .int), ((km' 3), .int), ((km' 4), .int), ((km' 5), .int), ((km' 6), .int), ((km' 7), .int), ((km' 8), .int), ((km' 9), .int), ((km' 10), .long), ((km' 11), .long)] t ∧ va_D A [oc h_this 8 ([.ref (hm' 0), .ref (hm' 1), .ref (hm' 2), .ref (hm' 3), .ref (hm' 4), .ref (hm' 5), .ref (hm' 6), .ref (hm' 7), .int 0, .null, .int 0, .ref (hm' 8), .ref (hm' 9), .ref (hm' 10), .int 0, .ref (hm' 11)] : List Value), ic (hm' 0) (km' 0) 4008 (fun _ => 0), ic (hm' 1) (km' 1) 4008 (fun _ => 0), ic (hm' 2) (km' 2) 4008 (fun _ => 0), ic (hm' 3) (km' 3) 4008 (fun _ => 0), ic (hm' 4) (km' 4) 4008 (fun _ => 0), ic (hm' 5) (km' 5) 4008 (fun _ => 0), ic (hm' 6) (km' 6) 4008 (fun _ => 0), ic (hm' 7) (km' 7) 4008 (fun _ => 0), ic (hm' 8) (km' 8) 4001 (fun _ => 0), ic (hm' 9) (km' 9) 4001 (fun _ => 0), jc (hm' 10) (km' 10) 4001 (fun _ => 0), jc (hm' 11) (km' 11) 26 (wt 133)]) A) ([.ref h_this] : List Value).toArray s 90 44613 A) (F0 m 117 ls []) := by
    clear hP hD hS
    clear hl
    intro nn
    induction nn with
    | zero => intro i hi hw hn H locs hP hD hS ls hl; exfalso; omega
    | succ nn ih =>
      intro i hi hw hn H locs hP hD hS ls hl
      refine lv_iload_n hx hb d_Source_init_117 rfl (lv_at hl 0 rfl) ?_
      refine va_ldcS (own := R_Source) (index := 49) (q := ad 0) hx hb hown (henv.2.2 0 (by decide)).2 d_Source_init_118 ?_
      have hPc := hP.sub (ws' := []) [] rfl
      have hKc := hK.sub (tys' := []) [] rfl
      refine vp_callSi (va_Run.run (va_runV (As := []) (rest := [.int (nI (i))]) ⟨hx, hb, hml, hown, hT⟩ (c_Str_length_l l dC dI (ad := ad) (av := av) (i := 0) (hi := (by decide))) (cwV 0 hT (gV ml_Source_51 im_Str_length se_Str_length ini_Str co_Str_length) rfl rfl rfl (by decide +kernel) ⟨Nat.le_of_ble_eq_true rfl, Nat.le_of_ble_eq_true rfl⟩) ⟨fbSe, (env_recv henv (by decide) hS), fun U hU hW => ⟨rfl, by rw [hU]; exact hPc, va_K.moved hW.alike hKc, env0.hand henv hS hU hW (fun q h => h.elim)⟩⟩ rfl rfl hl.1 rfl (lv_room (Nat.le_of_ble_eq_true rfl)) d_Source_init_120 ⟨(show 12 + 3 * wc i + 0 ≤ 90 by omega), (show 44093 + 20 * wc i + 0 ≤ 44613 by omega)⟩)) (fun r13 hr13 => ?_)
      obtain rfl : r13 = nI 133 := hr13.trans rfl
      refine lv_icmp_ge (tgt := 182) hx hb d_Source_init_123 (by decide) (fun c14 => ?_) (fun c14 => ?_)
      · have b14 : (133) ≤ ((i)) := (ni_le (by omega) (by omega)).1 c14
        obtain rfl : i = 133 := by omega
        have hP : va_P (dC, dI) cls_all [oc h_this 8 ([.ref q1, .ref q2, .ref q3, .ref q4, .ref q5, .ref q6, .ref q7, .ref q8, .int 0, .null, .int 0, .ref q9, .ref q10, .ref q11, .int 0, .ref q12] : List Value), ic q1 k1 4008 (fun _ => 0), ic q2 k2 4008 (fun _ => 0), ic q3 k3 4008 (fun _ => 0), ic q4 k4 4008 (fun _ => 0), ic q5 k5 4008 (fun _ => 0), ic q6 k6 4008 (fun _ => 0), ic q7 k7 4008 (fun _ => 0), ic q8 k8 4008 (fun _ => 0), ic q9 k9 4001 (fun _ => 0), ic q10 k10 4001 (fun _ => 0), jc q11 k11 4001 (fun _ => 0), jc q12 k12 26 (wt 133)] H := hP
        have hD : va_D A [oc h_this 8 ([.ref q1, .ref q2, .ref q3, .ref q4, .ref q5, .ref q6, .ref q7, .ref q8, .int 0, .null, .int 0, .ref q9, .ref q10, .ref q11, .int 0, .ref q12] : List Value), ic q1 k1 4008 (fun _ => 0), ic q2 k2 4008 (fun _ => 0), ic q3 k3 4008 (fun _ => 0), ic q4 k4 4008 (fun _ => 0), ic q5 k5 4008 (fun _ => 0), ic q6 k6 4008 (fun _ => 0), ic q7 k7 4008 (fun _ => 0), ic q8 k8 4008 (fun _ => 0), ic q9 k9 4001 (fun _ => 0), ic q10 k10 4001 (fun _ => 0), jc q11 k11 4001 (fun _ => 0), jc q12 k12 26 (wt 133)] := hD
        have hP9 := hP.sub (ws' := [oc h_this 8 ([.ref q1, .ref q2, .ref q3, .ref q4, .ref q5, .ref q6, .ref q7, .ref q8, .int 0, .null, .int 0, .ref q9, .ref q10, .ref q11, .int 0, .ref q12] : List Value), ic q1 k1 4008 (fun _ => 0), ic q2 k2 4008 (fun _ => 0), ic q3 k3 4008 (fun _ => 0), ic q4 k4 4008 (fun _ => 0), ic q5 k5 4008 (fun _ => 0), ic q6 k6 4008 (fun _ => 0), ic q7 k7 4008 (fun _ => 0), ic q8 k8 4008 (fun _ => 0), ic q9 k9 4001 (fun _ => 0), ic q10 k10 4001 (fun _ => 0), jc q11 k11 4001 (fun _ => 0), jc q12 k12 26 (wt 133)]) [0, 1, 2, 3, 4, 5, 6, 7, 8, 9, 10, 11, 12] rfl
        have hD9 := hD.sub (ws' := [oc h_this 8 ([.ref q1, .ref q2, .ref q3, .ref q4, .ref q5, .ref q6, .ref q7, .ref q8, .int 0, .null, .int 0, .ref q9, .ref q10, .ref q11, .int 0, .ref q12] : List Value), ic q1 k1 4008 (fun _ => 0), ic q2 k2 4008 (fun _ => 0), ic q3 k3 4008 (fun _ => 0), ic q4 k4 4008 (fun _ => 0), ic q5 k5 4008 (fun _ => 0), ic q6 k6 4008 (fun _ => 0), ic q7 k7 4008 (fun _ => 0), ic q8 k8 4008 (fun _ => 0), ic q9 k9 4001 (fun _ => 0), ic q10 k10 4001 (fun _ => 0), jc q11 k11 4001 (fun _ => 0), jc q12 k12 26 (wt 133)]) [0, 1, 2, 3, 4, 5, 6, 7, 8, 9, 10, 11, 12] (by decide) rfl
        have hK9 := hK.sub (tys' := [(k1, .int), (k2, .int), (k3, .int), (k4, .int), (k5, .int), (k6, .int), (k7, .int), (k8, .int), (k9, .int), (k10, .int), (k11, .long), (k12, .long)]) [0, 1, 2, 3, 4, 5, 6, 7, 8, 9, 10, 11] rfl
        have hv15 : ([.ref q1, .ref q2, .ref q3, .ref q4, .ref q5, .ref q6, .ref q7, .ref q8, .int 0, .null, .int 0, .ref q9, .ref q10, .ref q11, .int 0, .ref q12] : List Value)[0]? = some (.ref q1) := rfl
        have hv16 : ([.ref q1, .ref q2, .ref q3, .ref q4, .ref q5, .ref q6, .ref q7, .ref q8, .int 0, .null, .int 0, .ref q9, .ref q10, .ref q11, .int 0, .ref q12] : List Value)[1]? = some (.ref q2) := rfl
        have hv17 : ([.ref q1, .ref q2, .ref q3, .ref q4, .ref q5, .ref q6, .ref q7, .ref q8, .int 0, .null, .int 0, .ref q9, .ref q10, .ref q11, .int 0, .ref q12] : List Value)[2]? = some (.ref q3) := rfl
        have hv18 : ([.ref q1, .ref q2, .ref q3, .ref q4, .ref q5, .ref q6, .ref q7, .ref q8, .int 0, .null, .int 0, .ref q9, .ref q10, .ref q11, .int 0, .ref q12] : List Value)[3]? = some (.ref q4) := rfl
        have hv19 : ([.ref q1, .ref q2, .ref q3, .ref q4, .ref q5, .ref q6, .ref q7, .ref q8, .int 0, .null, .int 0, .ref q9, .ref q10, .ref q11, .int 0, .ref q12] : List Value)[4]? = some (.ref q5) := rfl
        have hv20 : ([.ref q1, .ref q2, .ref q3, .ref q4, .ref q5, .ref q6, .ref q7, .ref q8, .int 0, .null, .int 0, .ref q9, .ref q10, .ref q11, .int 0, .ref q12] : List Value)[5]? = some (.ref q6) := rfl
        have hv21 : ([.ref q1, .ref q2, .ref q3, .ref q4, .ref q5, .ref q6, .ref q7, .ref q8, .int 0, .null, .int 0, .ref q9, .ref q10, .ref q11, .int 0, .ref q12] : List Value)[6]? = some (.ref q7) := rfl
        have hv22 : ([.ref q1, .ref q2, .ref q3, .ref q4, .ref q5, .ref q6, .ref q7, .ref q8, .int 0, .null, .int 0, .ref q9, .ref q10, .ref q11, .int 0, .ref q12] : List Value)[7]? = some (.ref q8) := rfl
        have hv23 : ([.ref q1, .ref q2, .ref q3, .ref q4, .ref q5, .ref q6, .ref q7, .ref q8, .int 0, .null, .int 0, .ref q9, .ref q10, .ref q11, .int 0, .ref q12] : List Value)[8]? = some (.int 0) := rfl
        have hv24 : ([.ref q1, .ref q2, .ref q3, .ref q4, .ref q5, .ref q6, .ref q7, .ref q8, .int 0, .null, .int 0, .ref q9, .ref q10, .ref q11, .int 0, .ref q12] : List Value)[10]? = some (.int 0) := rfl
        have hv25 : ([.ref q1, .ref q2, .ref q3, .ref q4, .ref q5, .ref q6, .ref q7, .ref q8, .int 0, .null, .int 0, .ref q9, .ref q10, .ref q11, .int 0, .ref q12] : List Value)[11]? = some (.ref q9) := rfl
        have hv26 : ([.ref q1, .ref q2, .ref q3, .ref q4, .ref q5, .ref q6, .ref q7, .ref q8, .int 0, .null, .int 0, .ref q9, .ref q10, .ref q11, .int 0, .ref q12] : List Value)[12]? = some (.ref q10) := rfl
        have hv27 : ([.ref q1, .ref q2, .ref q3, .ref q4, .ref q5, .ref q6, .ref q7, .ref q8, .int 0, .null, .int 0, .ref q9, .ref q10, .ref q11, .int 0, .ref q12] : List Value)[13]? = some (.ref q11) := rfl
        have hv28 : ([.ref q1, .ref q2, .ref q3, .ref q4, .ref q5, .ref q6, .ref q7, .ref q8, .int 0, .null, .int 0, .ref q9, .ref q10, .ref q11, .int 0, .ref q12] : List Value)[14]? = some (.int 0) := rfl
        have hv29 : ([.ref q1, .ref q2, .ref q3, .ref q4, .ref q5, .ref q6, .ref q7, .ref q8, .int 0, .null, .int 0, .ref q9, .ref q10, .ref q11, .int 0, .ref q12] : List Value)[15]? = some (.ref q12) := rfl
        have hv30 : ([.ref q1, .ref q2, .ref q3, .ref q4, .ref q5, .ref q6, .ref q7, .ref q8, .int 0, .null, .int 0, .ref q9, .ref q10, .ref q11, .int 0, .ref q12] : List Value)[9]? = some (.null) := rfl
        refine W.widen (k := 90) (n := 44613) (by omega) (by omega) ?_
        exact W.vret hx hb hr (fun t ht hW => ⟨⟨(), rfl, trivial, (fun i => [q1, q2, q3, q4, q5, q6, q7, q8, q9, q10, q11, q12].getD i 0), (fun i => [k1, k2, k3, k4, k5, k6, k7, k8, k9, k10, k11, k12].getD i 0), trivial, by rw [ht]; exact hP9, va_K.moved hW.alike hK9, hD9⟩, hS.F ht⟩) hS.2.2 d_Source_init_182
      · have b14 : ((i)) < (133) := (ni_le (by omega) (by omega)).2 c14
        obtain ⟨u1, u2, u3⟩ := w_fact i b14
        refine lv_iload_n hx hb d_Source_init_126 rfl (lv_at hl 2 rfl) ?_
        refine lv_aload_n hx hb d_Source_init_127 rfl (lv_at hl 3 rfl) ?_
        refine va_get (D := (dC, dI)) (ci := 8) (v := .ref q12) (C := R_Source) (T := F_Source) (N := 16) hx hb hT i_Source hown hK hP 0 rfl rfl 15 (by decide) (hT _ fl_Source_46) (fun _ h9 => h9) rfl d_Source_init_128 ?_
        refine va_alen (v := 26) hx hb hK hP 12 11 rfl rfl rfl d_Source_init_131 ?_
        refine lv_icmp_ge (tgt := 182) hx hb d_Source_init_132 (by decide) (fun c31 => absurd c31 (nI_ge (a := wc i) (b := 26) (by omega) (by decide))) (fun c31 => ?_)
        refine va_ldcS (own := R_Source) (index := 49) (q := ad 0) hx hb hown (henv.2.2 0 (by decide)).2 d_Source_init_135 ?_
        refine lv_iload_n hx hb d_Source_init_137 rfl (lv_at hl 0 rfl) ?_
        have hPc := hP.sub (ws' := []) [] rfl
        have hKc := hK.sub (tys' := []) [] rfl
        refine vp_callSi (va_Run.run (va_runV (As := [.int (nI (i))]) (rest := []) ⟨hx, hb, hml, hown, hT⟩ (c_Str_charAt_l l dC dI (ad := ad) (av := av) (p1 := (nI (i))) (i := 0) (hi := (by decide)) (h1 := (nI_pos (by omega))) (h2 := (show nI i < nI 133 from nI_lt (by omega) (by decide)))) (cwV 1 hT (gV ml_Source_57 im_Str_charAt se_Str_charAt ini_Str co_Str_charAt) rfl rfl rfl (by decide +kernel) ⟨Nat.le_of_ble_eq_true rfl, Nat.le_of_ble_eq_true rfl⟩) ⟨fbSe, (env_recv henv (by decide) hS), fun U hU hW => ⟨rfl, by rw [hU]; exact hPc, va_K.moved hW.alike hKc, env0.hand henv hS hU hW (fun q h => h.elim)⟩⟩ rfl rfl hl.1 rfl (lv_room (Nat.le_of_ble_eq_true rfl)) d_Source_init_138 ⟨(show 12 + 3 * wc i + 0 ≤ 90 by omega), (show 44093 + 20 * wc i + 0 ≤ 44613 by omega)⟩)) (fun r32 hr32 => ?_)
        obtain rfl : r32 = s_ch 0 i := hr32.trans (by rw [nI_clamp (by omega)])
        refine lv_bipush (v := 32) hx hb d_Source_init_141 (by decide) ?_
        refine lv_icmp_ne (tgt := 176) hx hb d_Source_init_143 (by decide) (fun c33 => ?_) (fun c33 => ?_)
        · refine lv_iinc (v := (nI (i + 1))) (lv' := [(3, .int (nI (i + 1))), (2, .int (nI (wf i))), (1, .int (nI (wc i))), (0, .ref h_this)]) hx hb d_Source_init_176 hl (k := 0) rfl (nI_add (i) 1) (by decide) rfl (fun ls hl => ?_)
          refine lv_goto (tgt := 117) hx hb d_Source_init_179 (by decide) ?_
          have hP : va_P (dC, dI) cls_all [oc h_this 8 ([.ref q1, .ref q2, .ref q3, .ref q4, .ref q5, .ref q6, .ref q7, .ref q8, .int 0, .null, .int 0, .ref q9, .ref q10, .ref q11, .int 0, .ref q12] : List Value), ic q1 k1 4008 (fun _ => 0), ic q2 k2 4008 (fun _ => 0), ic q3 k3 4008 (fun _ => 0), ic q4 k4 4008 (fun _ => 0), ic q5 k5 4008 (fun _ => 0), ic q6 k6 4008 (fun _ => 0), ic q7 k7 4008 (fun _ => 0), ic q8 k8 4008 (fun _ => 0), ic q9 k9 4001 (fun _ => 0), ic q10 k10 4001 (fun _ => 0), jc q11 k11 4001 (fun _ => 0), jc q12 k12 26 (wt (i + 1))] H := by rw [wt_n c33]; exact hP
          have hD : va_D A [oc h_this 8 ([.ref q1, .ref q2, .ref q3, .ref q4, .ref q5, .ref q6, .ref q7, .ref q8, .int 0, .null, .int 0, .ref q9, .ref q10, .ref q11, .int 0, .ref q12] : List Value), ic q1 k1 4008 (fun _ => 0), ic q2 k2 4008 (fun _ => 0), ic q3 k3 4008 (fun _ => 0), ic q4 k4 4008 (fun _ => 0), ic q5 k5 4008 (fun _ => 0), ic q6 k6 4008 (fun _ => 0), ic q7 k7 4008 (fun _ => 0), ic q8 k8 4008 (fun _ => 0), ic q9 k9 4001 (fun _ => 0), ic q10 k10 4001 (fun _ => 0), jc q11 k11 4001 (fun _ => 0), jc q12 k12 26 (wt (i + 1))] := by rw [wt_n c33]; exact hD
          have hl : lv_has ls 4 [(3, .int (nI (i + 1))), (2, .int (nI (wf (i + 1)))), (1, .int (nI (wc (i + 1)))), (0, .ref h_this)] := by rw [wc_n c33, wf_n c33]; exact hl
          refine W.widen (k := 12 + 3 * wc (i + 1)) (n := 44093 + 20 * wc (i + 1)) (by rw [wc_n c33]; omega) (by rw [wc_n c33]; omega) ?_
          exact ih (i + 1) (by omega) (by rw [wc_n c33]; omega) (by omega) _ _ hP hD hS ls (lv_sub hl [0, 1, 2, 3] rfl)
        · obtain ⟨u4, u5⟩ := u3 c33
          refine lv_aload_n hx hb d_Source_init_146 rfl (lv_at hl 3 rfl) ?_
          refine va_get (D := (dC, dI)) (ci := 8) (v := .ref q12) (C := R_Source) (T := F_Source) (N := 16) hx hb hT i_Source hown hK hP 0 rfl rfl 15 (by decide) (hT _ fl_Source_46) (fun _ h9 => h9) rfl d_Source_init_147 ?_
          refine lv_iload_n hx hb d_Source_init_150 rfl (lv_at hl 2 rfl) ?_
          refine va_ldcS (own := R_Source) (index := 49) (q := ad 0) hx hb hown (henv.2.2 0 (by decide)).2 d_Source_init_151 ?_
          refine lv_iload_n hx hb d_Source_init_153 rfl (lv_at hl 1 rfl) ?_
          refine lv_iload_n hx hb d_Source_init_154 rfl (lv_at hl 0 rfl) ?_
          have hPc := hP.sub (ws' := []) [] rfl
          have hKc := hK.sub (tys' := []) [] rfl
          have hDc := hD.sub (ws' := []) [] (by decide) rfl
          have hFc := va_free (wc := []) hD hS hA [] rfl
          refine va_callr (va_runV (As := [.int (nI (wf i)), .int (nI (i))]) (rest := [.int (nI (wc i)), .ref q12]) ⟨hx, hb, hml, hown, hT⟩ (c_Str_substring_l l dC dI (sz := H.size) (ad := ad) (av := av) (i := 0) (a := (wf i)) (b := i) (hi := (by decide)) (z1 := (by decide)) (z2 := (by first | assumption | (subst_vars; decide) | omega)) (z3 := (show i ≤ 133 by omega)) (z4 := (by first | assumption | (subst_vars; decide) | omega)) (z5 := (show i ≠ 133 by omega))) (cwV 2 hT (gV ml_Source_61 im_Str_substring se_Str_substring ini_Str co_Str_substring) rfl rfl rfl (by decide +kernel) ⟨Nat.le_of_ble_eq_true rfl, Nat.le_of_ble_eq_true rfl⟩) ⟨fbQe, (env_recv henv (by decide) hS), fun U hU hW => ⟨rfl, by rw [hU], by rw [hU]; exact hPc, va_K.moved hW.alike hKc, hDc.weaken (fun _ _ _ _ => trivial), env0.hand henv hS hU hW hFc⟩⟩ rfl rfl hl.1 rfl (lv_room (Nat.le_of_ble_eq_true rfl)) d_Source_init_155 ⟨(show 12 + 3 * wc i + 2 ≤ 90 by omega), (show 44093 + 20 * wc i + 12 ≤ 44613 by omega)⟩) hS (fun q _ h => hFc q h) hFc (fun u ra34  t H1 locs ht hvm hw hB hz1 hk1 hS => ?_)
          obtain ⟨fs_ret_34, h_ret_value_34, k_ret_value_34, ⟨hw34_0, hw34_1, hw34_2, hw34_3, hw34_4⟩, hP1, hK1, hD1⟩ := hB
          rw [ht] at hP1
          have hK1 := va_K.moved hvm.symm hK1
          obtain ⟨hP, hD⟩ := va_join (wr := [oc h_this 8 ([.ref q1, .ref q2, .ref q3, .ref q4, .ref q5, .ref q6, .ref q7, .ref q8, .int 0, .null, .int 0, .ref q9, .ref q10, .ref q11, .int 0, .ref q12] : List Value), ic q1 k1 4008 (fun _ => 0), ic q2 k2 4008 (fun _ => 0), ic q3 k3 4008 (fun _ => 0), ic q4 k4 4008 (fun _ => 0), ic q5 k5 4008 (fun _ => 0), ic q6 k6 4008 (fun _ => 0), ic q7 k7 4008 (fun _ => 0), ic q8 k8 4008 (fun _ => 0), ic q9 k9 4001 (fun _ => 0), ic q10 k10 4001 (fun _ => 0), jc q11 k11 4001 (fun _ => 0), jc q12 k12 26 (wt i)]) (w1 := [oc ra34 13 fs_ret_34, ic h_ret_value_34 k_ret_value_34 ((wf i) + (i - (wf i)) - (wf i)) (va_cpy (fun j => (s_byt.getD 0 []).getD j 0) (fun _ => 0) (wf i) 0 ((wf i) + (i - (wf i)) - (wf i)))]) hP hD [] [0, 1, 2, 3, 4, 5, 6, 7, 8, 9, 10, 11, 12] rfl rfl (by decide) (by decide) hk1 hFc hP1 hD1
          generalize H1 = H at hP hS ⊢
          have hP : va_P (dC, dI) cls_all [oc h_this 8 ([.ref q1, .ref q2, .ref q3, .ref q4, .ref q5, .ref q6, .ref q7, .ref q8, .int 0, .null, .int 0, .ref q9, .ref q10, .ref q11, .int 0, .ref q12] : List Value), ic q1 k1 4008 (fun _ => 0), ic q2 k2 4008 (fun _ => 0), ic q3 k3 4008 (fun _ => 0), ic q4 k4 4008 (fun _ => 0), ic q5 k5 4008 (fun _ => 0), ic q6 k6 4008 (fun _ => 0), ic q7 k7 4008 (fun _ => 0), ic q8 k8 4008 (fun _ => 0), ic q9 k9 4001 (fun _ => 0), ic q10 k10 4001 (fun _ => 0), jc q11 k11 4001 (fun _ => 0), jc q12 k12 26 (wt i), oc ra34 13 fs_ret_34, ic h_ret_value_34 k_ret_value_34 ((wf i) + (i - (wf i)) - (wf i)) (va_cpy (fun j => (s_byt.getD 0 []).getD j 0) (fun _ => 0) (wf i) 0 ((wf i) + (i - (wf i)) - (wf i)))] H := hP
          have hD : va_D A [oc h_this 8 ([.ref q1, .ref q2, .ref q3, .ref q4, .ref q5, .ref q6, .ref q7, .ref q8, .int 0, .null, .int 0, .ref q9, .ref q10, .ref q11, .int 0, .ref q12] : List Value), ic q1 k1 4008 (fun _ => 0), ic q2 k2 4008 (fun _ => 0), ic q3 k3 4008 (fun _ => 0), ic q4 k4 4008 (fun _ => 0), ic q5 k5 4008 (fun _ => 0), ic q6 k6 4008 (fun _ => 0), ic q7 k7 4008 (fun _ => 0), ic q8 k8 4008 (fun _ => 0), ic q9 k9 4001 (fun _ => 0), ic q10 k10 4001 (fun _ => 0), jc q11 k11 4001 (fun _ => 0), jc q12 k12 26 (wt i), oc ra34 13 fs_ret_34, ic h_ret_value_34 k_ret_value_34 ((wf i) + (i - (wf i)) - (wf i)) (va_cpy (fun j => (s_byt.getD 0 []).getD j 0) (fun _ => 0) (wf i) 0 ((wf i) + (i - (wf i)) - (wf i)))] := hD
          have hK : va_K (dC, dI) cls_all [(k1, .int), (k2, .int), (k3, .int), (k4, .int), (k5, .int), (k6, .int), (k7, .int), (k8, .int), (k9, .int), (k10, .int), (k11, .long), (k12, .long), (k_ret_value_34, .byte)] s := hK.app hK1
          have hPc := hP.sub (ws' := [oc ra34 13 fs_ret_34, ic h_ret_value_34 k_ret_value_34 ((wf i) + (i - (wf i)) - (wf i)) (va_cpy (fun j => (s_byt.getD 0 []).getD j 0) (fun _ => 0) (wf i) 0 ((wf i) + (i - (wf i)) - (wf i)))]) [13, 14] rfl
          have hKc := hK.sub (tys' := [(k_ret_value_34, .byte)]) [12] rfl
          have hDc := hD.sub (ws' := [oc ra34 13 fs_ret_34, ic h_ret_value_34 k_ret_value_34 ((wf i) + (i - (wf i)) - (wf i)) (va_cpy (fun j => (s_byt.getD 0 []).getD j 0) (fun _ => 0) (wf i) 0 ((wf i) + (i - (wf i)) - (wf i)))]) [13, 14] (by decide) rfl
          have hFc := va_free (wc := [oc ra34 13 fs_ret_34, ic h_ret_value_34 k_ret_value_34 ((wf i) + (i - (wf i)) - (wf i)) (va_cpy (fun j => (s_byt.getD 0 []).getD j 0) (fun _ => 0) (wf i) 0 ((wf i) + (i - (wf i)) - (wf i)))]) hD hS hA [13, 14] rfl
          refine va_callr (va_runV (As := []) (rest := [.int (nI (wc i)), .ref q12]) ⟨hx, hb, hml, hown, hT⟩ (c_Str_toCharArray l dC dI (sz := H.size) (ad := ad) (av := av) (h_this := ra34) (h_value := h_ret_value_34) (fs_this := fs_ret_34) (k_value := k_ret_value_34) (f_value := (va_cpy (fun j => (s_byt.getD 0 []).getD j 0) (fun _ => 0) (wf i) 0 ((wf i) + (i - (wf i)) - (wf i)))) (n := (wl i)) (len_this := (by first | exact hw34_0 | (simp only [List.length_set]; exact hw34_0))) (g_this_value := hw34_1) (g_this_coder := hw34_2) (z1 := (by unfold wl; omega))) (cwV 0 hT (gV ml_Source_65 im_Str_toCharArray se_Str_toCharArray ini_Str co_Str_toCharArray) rfl rfl rfl (by decide +kernel) ⟨Nat.le_of_ble_eq_true rfl, Nat.le_of_ble_eq_true rfl⟩) ⟨fbQe, va_recv hKc hPc (ci := 13) (q0 := 0) rfl rfl, fun U hU hW => ⟨rfl, by rw [hU], by rw [hU]; exact hPc, va_K.moved hW.alike hKc, hDc.weaken (fun _ _ _ _ => trivial), env0.hand henv hS hU hW hFc⟩⟩ rfl rfl hl.1 rfl (lv_room (Nat.le_of_ble_eq_true rfl)) d_Source_init_158 ⟨(show 12 + 3 * wc i + 2 + 1 ≤ 90 by omega), (show 44093 + 20 * wc i + 12 + 8 ≤ 44613 by omega)⟩) hS (fun q _ h => hFc q h) hFc (fun u ra35  t H1 locs ht hvm hw hB hz1 hk1 hS => ?_)
          obtain ⟨k_ret_35, hw35_0, hP1, hK1, hD1⟩ := hB
          rw [ht] at hP1
          have hK1 := va_K.moved hvm.symm hK1
          obtain ⟨hP, hD⟩ := va_join (wr := [oc h_this 8 ([.ref q1, .ref q2, .ref q3, .ref q4, .ref q5, .ref q6, .ref q7, .ref q8, .int 0, .null, .int 0, .ref q9, .ref q10, .ref q11, .int 0, .ref q12] : List Value), ic q1 k1 4008 (fun _ => 0), ic q2 k2 4008 (fun _ => 0), ic q3 k3 4008 (fun _ => 0), ic q4 k4 4008 (fun _ => 0), ic q5 k5 4008 (fun _ => 0), ic q6 k6 4008 (fun _ => 0), ic q7 k7 4008 (fun _ => 0), ic q8 k8 4008 (fun _ => 0), ic q9 k9 4001 (fun _ => 0), ic q10 k10 4001 (fun _ => 0), jc q11 k11 4001 (fun _ => 0), jc q12 k12 26 (wt i)]) (w1 := [oc ra34 13 fs_ret_34, ic h_ret_value_34 k_ret_value_34 ((wf i) + (i - (wf i)) - (wf i)) (va_cpy (fun j => (s_byt.getD 0 []).getD j 0) (fun _ => 0) (wf i) 0 ((wf i) + (i - (wf i)) - (wf i))), ic ra35 k_ret_35 (wl i) (infF (va_cpy (fun j => (s_byt.getD 0 []).getD j 0) (fun _ => 0) (wf i) 0 ((wf i) + (i - (wf i)) - (wf i))) (fun _ => 0) (wl i))]) hP hD [13, 14] [0, 1, 2, 3, 4, 5, 6, 7, 8, 9, 10, 11, 12] rfl rfl (by decide) (by decide) hk1 hFc hP1 hD1
          generalize H1 = H at hP hS ⊢
          have hP : va_P (dC, dI) cls_all [oc h_this 8 ([.ref q1, .ref q2, .ref q3, .ref q4, .ref q5, .ref q6, .ref q7, .ref q8, .int 0, .null, .int 0, .ref q9, .ref q10, .ref q11, .int 0, .ref q12] : List Value), ic q1 k1 4008 (fun _ => 0), ic q2 k2 4008 (fun _ => 0), ic q3 k3 4008 (fun _ => 0), ic q4 k4 4008 (fun _ => 0), ic q5 k5 4008 (fun _ => 0), ic q6 k6 4008 (fun _ => 0), ic q7 k7 4008 (fun _ => 0), ic q8 k8 4008 (fun _ => 0), ic q9 k9 4001 (fun _ => 0), ic q10 k10 4001 (fun _ => 0), jc q11 k11 4001 (fun _ => 0), jc q12 k12 26 (wt i), oc ra34 13 fs_ret_34, ic h_ret_value_34 k_ret_value_34 ((wf i) + (i - (wf i)) - (wf i)) (va_cpy (fun j => (s_byt.getD 0 []).getD j 0) (fun _ => 0) (wf i) 0 ((wf i) + (i - (wf i)) - (wf i))), ic ra35 k_ret_35 (wl i) (infF (va_cpy (fun j => (s_byt.getD 0 []).getD j 0) (fun _ => 0) (wf i) 0 ((wf i) + (i - (wf i)) - (wf i))) (fun _ => 0) (wl i))] H := hP
          have hD : va_D A [oc h_this 8 ([.ref q1, .ref q2, .ref q3, .ref q4, .ref q5, .ref q6, .ref q7, .ref q8, .int 0, .null, .int 0, .ref q9, .ref q10, .ref q11, .int 0, .ref q12] : List Value), ic q1 k1 4008 (fun _ => 0), ic q2 k2 4008 (fun _ => 0), ic q3 k3 4008 (fun _ => 0), ic q4 k4 4008 (fun _ => 0), ic q5 k5 4008 (fun _ => 0), ic q6 k6 4008 (fun _ => 0), ic q7 k7 4008 (fun _ => 0), ic q8 k8 4008 (fun _ => 0), ic q9 k9 4001 (fun _ => 0), ic q10 k10 4001 (fun _ => 0), jc q11 k11 4001 (fun _ => 0), jc q12 k12 26 (wt i), oc ra34 13 fs_ret_34, ic h_ret_value_34 k_ret_value_34 ((wf i) + (i - (wf i)) - (wf i)) (va_cpy (fun j => (s_byt.getD 0 []).getD j 0) (fun _ => 0) (wf i) 0 ((wf i) + (i - (wf i)) - (wf i))), ic ra35 k_ret_35 (wl i) (infF (va_cpy (fun j => (s_byt.getD 0 []).getD j 0) (fun _ => 0) (wf i) 0 ((wf i) + (i - (wf i)) - (wf i))) (fun _ => 0) (wl i))] := hD
          have hK : va_K (dC, dI) cls_all [(k1, .int), (k2, .int), (k3, .int), (k4, .int), (k5, .int), (k6, .int), (k7, .int), (k8, .int), (k9, .int), (k10, .int), (k11, .long), (k12, .long), (k_ret_value_34, .byte), (k_ret_value_34, .byte), (k_ret_35, .char)] s := hK.app hK1
          refine lv_iconst (v := 0) hx hb d_Source_init_161 (by decide) ?_
          refine lv_iload_n hx hb d_Source_init_162 rfl (lv_at hl 0 rfl) ?_
          refine lv_iload_n hx hb d_Source_init_163 rfl (lv_at hl 1 rfl) ?_
          refine lv_isub hx hb d_Source_init_164 ?_
          refine lv_topi (fun x36 e36 => ?_)
          obtain rfl : x36 = nI ((i) - (wf i)) := e36.trans (pk_sub (a := (i)) (b := (wf i)) (by omega))
          have hPc := hP.sub (ws' := [ic ra35 k_ret_35 (wl i) (infF (va_cpy (fun j => (s_byt.getD 0 []).getD j 0) (fun _ => 0) (wf i) 0 ((wf i) + (i - (wf i)) - (wf i))) (fun _ => 0) (wl i))]) [15] rfl
          have hKc := hK.sub (tys' := [(k_ret_35, .char)]) [14] rfl
          refine vp_callSl (va_Run.run (va_runS (As := [.ref ra35, .int 0, .int (nI ((i) - (wf i)))]) (rest := [.int (nI (wc i)), .ref q12]) ⟨hx, hb, hml, hown, hT⟩ (c_Source_packed l dC dI (h_a1 := ra35) (k_a1 := k_ret_35) (f_a1 := (infF (va_cpy (fun j => (s_byt.getD 0 []).getD j 0) (fun _ => 0) (wf i) 0 ((wf i) + (i - (wf i)) - (wf i))) (fun _ => 0) (wl i))) (L := (wl i)) (a := 0) (b := (i - wf i)) (hL := (by unfold wl; omega)) (hab := (by first | assumption | (subst_vars; decide) | omega)) (hbL := (by unfold wl; omega))) (va_cwS 3 hT (gS ml_Source_69 st_Source_packed ini_Source co_Source_packed) rfl rfl rfl (by decide +kernel) ⟨Nat.le_of_ble_eq_true rfl, Nat.le_of_ble_eq_true rfl⟩) ⟨fbS, fun U hU hW => ⟨rfl, by rw [hU]; exact hPc, va_K.moved hW.alike hKc⟩⟩ rfl rfl hl.1 rfl (lv_room (Nat.le_of_ble_eq_true rfl)) d_Source_init_165 ⟨(show 12 + 3 * wc i + 2 + 1 + 0 ≤ 90 by omega), (show 44093 + 20 * wc i + 12 + 8 + 0 ≤ 44613 by omega)⟩)) (fun r37 hr37 => ?_)
          refine va_last hx hb hK hP hD hS 12 11 rfl rfl (vp_in_nI (by omega) (by decide)) d_Source_init_168 (fun H locs hP hD hS => ?_)
          have es38 : vp_updL (wt i) (nI (wc i)).toNatClampNeg r37 = wt (i + 1) := (by subst_vars; rw [nI_clamp (by omega)]; exact (wt_s c33).symm)
          have hP : va_P (dC, dI) cls_all [oc h_this 8 ([.ref q1, .ref q2, .ref q3, .ref q4, .ref q5, .ref q6, .ref q7, .ref q8, .int 0, .null, .int 0, .ref q9, .ref q10, .ref q11, .int 0, .ref q12] : List Value), ic q1 k1 4008 (fun _ => 0), ic q2 k2 4008 (fun _ => 0), ic q3 k3 4008 (fun _ => 0), ic q4 k4 4008 (fun _ => 0), ic q5 k5 4008 (fun _ => 0), ic q6 k6 4008 (fun _ => 0), ic q7 k7 4008 (fun _ => 0), ic q8 k8 4008 (fun _ => 0), ic q9 k9 4001 (fun _ => 0), ic q10 k10 4001 (fun _ => 0), jc q11 k11 4001 (fun _ => 0), jc q12 k12 26 (vp_updL (wt i) (nI (wc i)).toNatClampNeg r37), oc ra34 13 fs_ret_34, ic h_ret_value_34 k_ret_value_34 ((wf i) + (i - (wf i)) - (wf i)) (va_cpy (fun j => (s_byt.getD 0 []).getD j 0) (fun _ => 0) (wf i) 0 ((wf i) + (i - (wf i)) - (wf i))), ic ra35 k_ret_35 (wl i) (infF (va_cpy (fun j => (s_byt.getD 0 []).getD j 0) (fun _ => 0) (wf i) 0 ((wf i) + (i - (wf i)) - (wf i))) (fun _ => 0) (wl i))] H := hP
          have hD : va_D A [oc h_this 8 ([.ref q1, .ref q2, .ref q3, .ref q4, .ref q5, .ref q6, .ref q7, .ref q8, .int 0, .null, .int 0, .ref q9, .ref q10, .ref q11, .int 0, .ref q12] : List Value), ic q1 k1 4008 (fun _ => 0), ic q2 k2 4008 (fun _ => 0), ic q3 k3 4008 (fun _ => 0), ic q4 k4 4008 (fun _ => 0), ic q5 k5 4008 (fun _ => 0), ic q6 k6 4008 (fun _ => 0), ic q7 k7 4008 (fun _ => 0), ic q8 k8 4008 (fun _ => 0), ic q9 k9 4001 (fun _ => 0), ic q10 k10 4001 (fun _ => 0), jc q11 k11 4001 (fun _ => 0), jc q12 k12 26 (vp_updL (wt i) (nI (wc i)).toNatClampNeg r37), oc ra34 13 fs_ret_34, ic h_ret_value_34 k_ret_value_34 ((wf i) + (i - (wf i)) - (wf i)) (va_cpy (fun j => (s_byt.getD 0 []).getD j 0) (fun _ => 0) (wf i) 0 ((wf i) + (i - (wf i)) - (wf i))), ic ra35 k_ret_35 (wl i) (infF (va_cpy (fun j => (s_byt.getD 0 []).getD j 0) (fun _ => 0) (wf i) 0 ((wf i) + (i - (wf i)) - (wf i))) (fun _ => 0) (wl i))] := hD
          rw [es38] at hP hD
          obtain ⟨f38, ef38⟩ : ∃ g, g = wt (i + 1) := ⟨_, rfl⟩
          rw [← ef38] at hP hD
          refine lv_iinc (v := (nI (wc i + 1))) (lv' := [(1, .int (nI (wc i + 1))), (3, .int (nI (i))), (2, .int (nI (wf i))), (0, .ref h_this)]) hx hb d_Source_init_169 hl (k := 2) rfl (nI_add (wc i) 1) (by decide) rfl (fun ls hl => ?_)
          refine lv_iload_n hx hb d_Source_init_172 rfl (lv_at hl 1 rfl) ?_
          refine lv_iconst (v := 1) hx hb d_Source_init_173 (by decide) ?_
          refine lv_iadd hx hb d_Source_init_174 ?_
          refine lv_topi (fun x39 e39 => ?_)
          obtain rfl : x39 = nI ((i) + 1) := e39.trans (nI_add (i) 1)
          refine lv_istore_n (lv' := [(2, .int (nI ((i) + 1))), (1, .int (nI (wc i + 1))), (3, .int (nI (i))), (0, .ref h_this)]) hx hb d_Source_init_175 rfl hl (by decide) rfl (fun ls hl => ?_)
          refine lv_iinc (v := (nI (i + 1))) (lv' := [(3, .int (nI (i + 1))), (2, .int (nI ((i) + 1))), (1, .int (nI (wc i + 1))), (0, .ref h_this)]) hx hb d_Source_init_176 hl (k := 2) rfl (nI_add (i) 1) (by decide) rfl (fun ls hl => ?_)
          refine lv_goto (tgt := 117) hx hb d_Source_init_179 (by decide) ?_
          subst ef38
          have hP : va_P (dC, dI) cls_all [oc h_this 8 ([.ref q1, .ref q2, .ref q3, .ref q4, .ref q5, .ref q6, .ref q7, .ref q8, .int 0, .null, .int 0, .ref q9, .ref q10, .ref q11, .int 0, .ref q12] : List Value), ic q1 k1 4008 (fun _ => 0), ic q2 k2 4008 (fun _ => 0), ic q3 k3 4008 (fun _ => 0), ic q4 k4 4008 (fun _ => 0), ic q5 k5 4008 (fun _ => 0), ic q6 k6 4008 (fun _ => 0), ic q7 k7 4008 (fun _ => 0), ic q8 k8 4008 (fun _ => 0), ic q9 k9 4001 (fun _ => 0), ic q10 k10 4001 (fun _ => 0), jc q11 k11 4001 (fun _ => 0), jc q12 k12 26 (wt (i + 1)), oc ra34 13 fs_ret_34, ic h_ret_value_34 k_ret_value_34 ((wf i) + (i - (wf i)) - (wf i)) (va_cpy (fun j => (s_byt.getD 0 []).getD j 0) (fun _ => 0) (wf i) 0 ((wf i) + (i - (wf i)) - (wf i))), ic ra35 k_ret_35 (wl i) (infF (va_cpy (fun j => (s_byt.getD 0 []).getD j 0) (fun _ => 0) (wf i) 0 ((wf i) + (i - (wf i)) - (wf i))) (fun _ => 0) (wl i))] H := hP
          have hD : va_D A [oc h_this 8 ([.ref q1, .ref q2, .ref q3, .ref q4, .ref q5, .ref q6, .ref q7, .ref q8, .int 0, .null, .int 0, .ref q9, .ref q10, .ref q11, .int 0, .ref q12] : List Value), ic q1 k1 4008 (fun _ => 0), ic q2 k2 4008 (fun _ => 0), ic q3 k3 4008 (fun _ => 0), ic q4 k4 4008 (fun _ => 0), ic q5 k5 4008 (fun _ => 0), ic q6 k6 4008 (fun _ => 0), ic q7 k7 4008 (fun _ => 0), ic q8 k8 4008 (fun _ => 0), ic q9 k9 4001 (fun _ => 0), ic q10 k10 4001 (fun _ => 0), jc q11 k11 4001 (fun _ => 0), jc q12 k12 26 (wt (i + 1)), oc ra34 13 fs_ret_34, ic h_ret_value_34 k_ret_value_34 ((wf i) + (i - (wf i)) - (wf i)) (va_cpy (fun j => (s_byt.getD 0 []).getD j 0) (fun _ => 0) (wf i) 0 ((wf i) + (i - (wf i)) - (wf i))), ic ra35 k_ret_35 (wl i) (infF (va_cpy (fun j => (s_byt.getD 0 []).getD j 0) (fun _ => 0) (wf i) 0 ((wf i) + (i - (wf i)) - (wf i))) (fun _ => 0) (wl i))] := hD
          have hl : lv_has ls 4 [(3, .int (nI (i + 1))), (2, .int (nI (wf (i + 1)))), (1, .int (nI (wc (i + 1)))), (0, .ref h_this)] := by rw [wc_s c33, wf_s c33]; exact hl
          refine W.widen (k := 12 + 3 * wc (i + 1)) (n := 44093 + 20 * wc (i + 1)) (by rw [wc_s c33]; omega) (by rw [wc_s c33]; omega) ?_
          have hP := hP.sub (ws' := [oc h_this 8 ([.ref q1, .ref q2, .ref q3, .ref q4, .ref q5, .ref q6, .ref q7, .ref q8, .int 0, .null, .int 0, .ref q9, .ref q10, .ref q11, .int 0, .ref q12] : List Value), ic q1 k1 4008 (fun _ => 0), ic q2 k2 4008 (fun _ => 0), ic q3 k3 4008 (fun _ => 0), ic q4 k4 4008 (fun _ => 0), ic q5 k5 4008 (fun _ => 0), ic q6 k6 4008 (fun _ => 0), ic q7 k7 4008 (fun _ => 0), ic q8 k8 4008 (fun _ => 0), ic q9 k9 4001 (fun _ => 0), ic q10 k10 4001 (fun _ => 0), jc q11 k11 4001 (fun _ => 0), jc q12 k12 26 (wt (i + 1))]) [0, 1, 2, 3, 4, 5, 6, 7, 8, 9, 10, 11, 12] rfl
          have hD := hD.sub (ws' := [oc h_this 8 ([.ref q1, .ref q2, .ref q3, .ref q4, .ref q5, .ref q6, .ref q7, .ref q8, .int 0, .null, .int 0, .ref q9, .ref q10, .ref q11, .int 0, .ref q12] : List Value), ic q1 k1 4008 (fun _ => 0), ic q2 k2 4008 (fun _ => 0), ic q3 k3 4008 (fun _ => 0), ic q4 k4 4008 (fun _ => 0), ic q5 k5 4008 (fun _ => 0), ic q6 k6 4008 (fun _ => 0), ic q7 k7 4008 (fun _ => 0), ic q8 k8 4008 (fun _ => 0), ic q9 k9 4001 (fun _ => 0), ic q10 k10 4001 (fun _ => 0), jc q11 k11 4001 (fun _ => 0), jc q12 k12 26 (wt (i + 1))]) [0, 1, 2, 3, 4, 5, 6, 7, 8, 9, 10, 11, 12] (by decide) rfl
          exact ih (i + 1) (by omega) (by rw [wc_s c33]; omega) (by omega) _ _ hP hD hS ls (lv_sub hl [0, 1, 2, 3] rfl)
  exact loop 134 0 (by omega) (by decide) (by omega) _ _ hP hD hS ls (lv_sub hl [0, 1, 2, 3] rfl)
