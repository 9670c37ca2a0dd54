abbrev b_Source_scanToken : ByteArray := prog_10_method_4_code
abbrev y_Source_scanToken : MethodName := ⟨R_Source, "scanToken", "(I)I"⟩
theorem co_Source_scanToken : Cond.code y_Source_scanToken b_Source_scanToken 4 (some .int) ∈ lw_good := lg_in (tin_4 _ (List.mem_of_getElem? (i := 50) rfl)) rfl
abbrev w_Source_scanToken : List Cond := Cond.code y_Source_scanToken b_Source_scanToken 4 (some .int) :: lw_good
theorem im_Source_scanToken : Cond.instanceMethod y_Source_scanToken ∈ lw_good := lg_right (i := 769) (by decide +kernel) rfl
theorem se_Source_scanToken : Cond.selects R_Source y_Source_scanToken y_Source_scanToken ∈ lw_good := lg_left (i := 1) (by decide +kernel) rfl
theorem d_Source_scanToken_0 : decode b_Source_scanToken 0 = .ok (.aload_n 0, 1) := by decide +kernel
theorem d_Source_scanToken_1 : decode b_Source_scanToken 1 = .ok (.getfield 73, 3) := by decide +kernel
theorem d_Source_scanToken_4 : decode b_Source_scanToken 4 = .ok (.iload_n 1, 1) := by decide +kernel
theorem d_Source_scanToken_5 : decode b_Source_scanToken 5 = .ok (.caload, 1) := by decide +kernel
theorem d_Source_scanToken_6 : decode b_Source_scanToken 6 = .ok (.istore_n 2, 1) := by decide +kernel
theorem d_Source_scanToken_7 : decode b_Source_scanToken 7 = .ok (.iload_n 2, 1) := by decide +kernel
theorem d_Source_scanToken_8 : decode b_Source_scanToken 8 = .ok (.bipush 32, 2) := by decide +kernel
theorem d_Source_scanToken_10 : decode b_Source_scanToken 10 = .ok (.if_icmp .ne 7, 3) := by decide +kernel
theorem d_Source_scanToken_13 : decode b_Source_scanToken 13 = .ok (.iload_n 1, 1) := by decide +kernel
theorem d_Source_scanToken_14 : decode b_Source_scanToken 14 = .ok (.iconst 1, 1) := by decide +kernel
theorem d_Source_scanToken_15 : decode b_Source_scanToken 15 = .ok (.iadd, 1) := by decide +kernel
theorem d_Source_scanToken_16 : decode b_Source_scanToken 16 = .ok (.ireturn, 1) := by decide +kernel
theorem d_Source_scanToken_17 : decode b_Source_scanToken 17 = .ok (.iload_n 2, 1) := by decide +kernel
theorem d_Source_scanToken_18 : decode b_Source_scanToken 18 = .ok (.bipush 39, 2) := by decide +kernel
theorem d_Source_scanToken_20 : decode b_Source_scanToken 20 = .ok (.if_icmp .eq 10, 3) := by decide +kernel
theorem d_Source_scanToken_23 : decode b_Source_scanToken 23 = .ok (.iload_n 2, 1) := by decide +kernel
theorem d_Source_scanToken_24 : decode b_Source_scanToken 24 = .ok (.invokestatic 102, 3) := by decide +kernel
theorem d_Source_scanToken_27 : decode b_Source_scanToken 27 = .ok (.ifCond .eq 9, 3) := by decide +kernel
theorem d_Source_scanToken_30 : decode b_Source_scanToken 30 = .ok (.aload_n 0, 1) := by decide +kernel
theorem d_Source_scanToken_31 : decode b_Source_scanToken 31 = .ok (.iload_n 1, 1) := by decide +kernel
theorem d_Source_scanToken_32 : decode b_Source_scanToken 32 = .ok (.invokevirtual 106, 3) := by decide +kernel
theorem ml_Source_106 : Cond.methodLink R_Source 106 ⟨"PointerHouse$Source", "scanRow", "(I)I"⟩ ∈ lw_good := lg_right (i := 780) (by decide +kernel) rfl
theorem d_Source_scanToken_35 : decode b_Source_scanToken 35 = .ok (.ireturn, 1) := by decide +kernel
theorem d_Source_scanToken_36 : decode b_Source_scanToken 36 = .ok (.iload_n 2, 1) := by decide +kernel
theorem d_Source_scanToken_37 : decode b_Source_scanToken 37 = .ok (.bipush 61, 2) := by decide +kernel
theorem d_Source_scanToken_39 : decode b_Source_scanToken 39 = .ok (.if_icmp .ne 38, 3) := by decide +kernel
theorem d_Source_scanToken_42 : decode b_Source_scanToken 42 = .ok (.iload_n 1, 1) := by decide +kernel
theorem d_Source_scanToken_43 : decode b_Source_scanToken 43 = .ok (.iconst 1, 1) := by decide +kernel
theorem d_Source_scanToken_44 : decode b_Source_scanToken 44 = .ok (.iadd, 1) := by decide +kernel
theorem d_Source_scanToken_45 : decode b_Source_scanToken 45 = .ok (.aload_n 0, 1) := by decide +kernel
theorem d_Source_scanToken_46 : decode b_Source_scanToken 46 = .ok (.getfield 83, 3) := by decide +kernel
theorem d_Source_scanToken_49 : decode b_Source_scanToken 49 = .ok (.if_icmp .ge 28, 3) := by decide +kernel
theorem d_Source_scanToken_52 : decode b_Source_scanToken 52 = .ok (.aload_n 0, 1) := by decide +kernel
theorem d_Source_scanToken_53 : decode b_Source_scanToken 53 = .ok (.getfield 73, 3) := by decide +kernel
theorem d_Source_scanToken_56 : decode b_Source_scanToken 56 = .ok (.iload_n 1, 1) := by decide +kernel
theorem d_Source_scanToken_57 : decode b_Source_scanToken 57 = .ok (.iconst 1, 1) := by decide +kernel
theorem d_Source_scanToken_58 : decode b_Source_scanToken 58 = .ok (.iadd, 1) := by decide +kernel
theorem d_Source_scanToken_59 : decode b_Source_scanToken 59 = .ok (.caload, 1) := by decide +kernel
theorem d_Source_scanToken_60 : decode b_Source_scanToken 60 = .ok (.bipush 61, 2) := by decide +kernel
theorem d_Source_scanToken_62 : decode b_Source_scanToken 62 = .ok (.if_icmp .ne 15, 3) := by decide +kernel
theorem d_Source_scanToken_65 : decode b_Source_scanToken 65 = .ok (.aload_n 0, 1) := by decide +kernel
theorem d_Source_scanToken_66 : decode b_Source_scanToken 66 = .ok (.bipush 62, 2) := by decide +kernel
theorem d_Source_scanToken_68 : decode b_Source_scanToken 68 = .ok (.iload_n 1, 1) := by decide +kernel
theorem d_Source_scanToken_69 : decode b_Source_scanToken 69 = .ok (.lconst 0, 1) := by decide +kernel
theorem d_Source_scanToken_70 : decode b_Source_scanToken 70 = .ok (.invokevirtual 109, 3) := by decide +kernel
theorem d_Source_scanToken_73 : decode b_Source_scanToken 73 = .ok (.iload_n 1, 1) := by decide +kernel
theorem d_Source_scanToken_74 : decode b_Source_scanToken 74 = .ok (.iconst 2, 1) := by decide +kernel
theorem d_Source_scanToken_75 : decode b_Source_scanToken 75 = .ok (.iadd, 1) := by decide +kernel
theorem d_Source_scanToken_76 : decode b_Source_scanToken 76 = .ok (.ireturn, 1) := by decide +kernel
theorem d_Source_scanToken_77 : decode b_Source_scanToken 77 = .ok (.ldc 113, 2) := by decide +kernel
theorem d_Source_scanToken_79 : decode b_Source_scanToken 79 = .ok (.iload_n 2, 1) := by decide +kernel
theorem d_Source_scanToken_80 : decode b_Source_scanToken 80 = .ok (.invokevirtual 115, 3) := by decide +kernel
theorem ml_Source_115 : Cond.methodLink R_Source 115 ⟨"java/lang/String", "indexOf", "(I)I"⟩ ∈ lw_good := lg_right (i := 806) (by decide +kernel) rfl
theorem d_Source_scanToken_83 : decode b_Source_scanToken 83 = .ok (.istore_n 3, 1) := by decide +kernel
theorem d_Source_scanToken_84 : decode b_Source_scanToken 84 = .ok (.aload_n 0, 1) := by decide +kernel
theorem d_Source_scanToken_85 : decode b_Source_scanToken 85 = .ok (.iload_n 3, 1) := by decide +kernel
theorem d_Source_scanToken_86 : decode b_Source_scanToken 86 = .ok (.ifCond .ge 7, 3) := by decide +kernel
theorem d_Source_scanToken_89 : decode b_Source_scanToken 89 = .ok (.iconst 1, 1) := by decide +kernel
theorem d_Source_scanToken_90 : decode b_Source_scanToken 90 = .ok (.goto 7, 3) := by decide +kernel
theorem d_Source_scanToken_93 : decode b_Source_scanToken 93 = .ok (.bipush 40, 2) := by decide +kernel
theorem d_Source_scanToken_95 : decode b_Source_scanToken 95 = .ok (.iload_n 3, 1) := by decide +kernel
theorem d_Source_scanToken_96 : decode b_Source_scanToken 96 = .ok (.iadd, 1) := by decide +kernel
theorem d_Source_scanToken_97 : decode b_Source_scanToken 97 = .ok (.iload_n 1, 1) := by decide +kernel
theorem d_Source_scanToken_98 : decode b_Source_scanToken 98 = .ok (.lconst 0, 1) := by decide +kernel
theorem d_Source_scanToken_99 : decode b_Source_scanToken 99 = .ok (.invokevirtual 109, 3) := by decide +kernel
theorem d_Source_scanToken_102 : decode b_Source_scanToken 102 = .ok (.iload_n 1, 1) := by decide +kernel
theorem d_Source_scanToken_103 : decode b_Source_scanToken 103 = .ok (.iconst 1, 1) := by decide +kernel
theorem d_Source_scanToken_104 : decode b_Source_scanToken 104 = .ok (.iadd, 1) := by decide +kernel
theorem d_Source_scanToken_105 : decode b_Source_scanToken 105 = .ok (.ireturn, 1) := by decide +kernel
set_option maxHeartbeats 4000000 in
set_option maxRecDepth 100000 in
theorem c_Source_scanToken (l : Launch) (dC : Nat → ClassId) (dI : Nat → Nat → Nat) (sz : Nat) (ad : Nat → Nat) (av : Nat → Nat) (h_this : Nat) (h_text : Nat) (h_words : Nat) (h_tokenKind : Nat) (h_tokenStart : Nat) (h_tokenName : Nat) (fs_this : List Value) (k_text : ClassId) (f_text : Nat → Int32) (k_words : ClassId) (f_words : Nat → Int64) (k_tokenKind : ClassId) (f_tokenKind : Nat → Int32) (k_tokenStart : ClassId) (f_tokenStart : Nat → Int32) (k_tokenName : ClassId) (f_tokenName : Nat → Int64) (a : Nat) (tz : Nat) (tn : Nat) (len_this : fs_this.length = 16) (g_this_text : fs_this[9]? = some (.ref h_text)) (g_this_words : fs_this[15]? = some (.ref h_words)) (g_this_length : fs_this[10]? = some (.int (nI tz))) (g_this_tokens : fs_this[14]? = some (.int (nI tn))) (g_this_tokenKind : fs_this[11]? = some (.ref h_tokenKind)) (g_this_tokenStart : fs_this[12]? = some (.ref h_tokenStart)) (g_this_tokenName : fs_this[13]? = some (.ref h_tokenName)) (ha : a < tz) (hz : tz ≤ 4000) (ht0 : tn < 4000) (hch : ∀ j, j < 4000 → 0 ≤ f_text j ∧ f_text j ≤ 255) : Met l y_Source_scanToken w_Source_scanToken ({ frames := 4, cells := 0, slots := 0, locals := 93 } : Room) (va_Pc [.ref h_this, .int (nI a)] (fun U => U.heap.size = sz ∧ va_P (dC, dI) cls_all [oc h_this 8 fs_this, ic h_text k_text 4000 f_text, jc h_words k_words 26 f_words, ic h_tokenKind k_tokenKind 4001 f_tokenKind, ic h_tokenStart k_tokenStart 4001 f_tokenStart, jc h_tokenName k_tokenName 4001 f_tokenName] U.heap ∧ va_K (dC, dI) cls_all [(k_text, .char), (k_words, .long), (k_tokenKind, .int), (k_tokenStart, .int), (k_tokenName, .long)] U ∧ va_D (fun _ => True) [oc h_this 8 fs_this, ic h_text k_text 4000 f_text, jc h_words k_words 26 f_words, ic h_tokenKind k_tokenKind 4001 f_tokenKind, ic h_tokenStart k_tokenStart 4001 f_tokenStart, jc h_tokenName k_tokenName 4001 f_tokenName] ∧ env0 ad av (va_A [oc h_this 8 fs_this, ic h_text k_text 4000 f_text, jc h_words k_words 26 f_words, ic h_tokenKind k_tokenKind 4001 f_tokenKind, ic h_tokenStart k_tokenStart 4001 f_tokenStart, jc h_tokenName k_tokenName 4001 f_tokenName] sz) U U.heap)) (va_Qi (fun (z r : Int32) => z = r) (fun r t => ∃ (fs_this' : List Value) (f_tokenKind' : Nat → Int32) (f_tokenStart' : Nat → Int32) (f_tokenName' : Nat → Int64), (fs_this'.length = 16 ∧ (∀ j : Nat, j ≠ 14 → fs_this'[j]? = fs_this[j]?) ∧ fs_this'[14]? = some (.int (if f_text a = 32 then nI tn else nI (tn + 1))) ∧ (f_tokenKind' = if f_text a = 32 then f_tokenKind else upd f_tokenKind tn (tokK f_text f_words tz a)) ∧ (f_tokenStart' = if f_text a = 32 then f_tokenStart else upd f_tokenStart tn (nI a)) ∧ (f_tokenName' = if f_text a = 32 then f_tokenName else vp_updL f_tokenName tn (tokV f_text tz a)) ∧ (r = nI (sNext f_text tz a))) ∧ va_P (dC, dI) cls_all [oc h_this 8 fs_this', ic h_text k_text 4000 f_text, jc h_words k_words 26 f_words, ic h_tokenKind k_tokenKind 4001 f_tokenKind', ic h_tokenStart k_tokenStart 4001 f_tokenStart', jc h_tokenName k_tokenName 4001 f_tokenName'] t.heap ∧ va_K (dC, dI) cls_all [(k_text, .char), (k_words, .long), (k_tokenKind, .int), (k_tokenStart, .int), (k_tokenName, .long)] t ∧ va_D (va_A [oc h_this 8 fs_this, ic h_text k_text 4000 f_text, jc h_words k_words 26 f_words, ic h_tokenKind k_tokenKind 4001 f_tokenKind, ic h_tokenStart k_tokenStart 4001 f_tokenStart, jc h_tokenName k_tokenName 4001 f_tokenName] sz) [oc h_this 8 fs_this', ic h_text k_text 4000 f_text, jc h_words k_words 26 f_words, ic h_tokenKind k_tokenKind 4001 f_tokenKind', ic h_tokenStart k_tokenStart 4001 f_tokenStart', jc h_tokenName k_tokenName 4001 f_tokenName']) (va_A [oc h_this 8 fs_this, ic h_text k_text 4000 f_text, jc h_words k_words 26 f_words, ic h_tokenKind k_tokenKind 4001 f_tokenKind, ic h_tokenStart k_tokenStart 4001 f_tokenStart, jc h_tokenName k_tokenName 4001 f_tokenName] sz)) 0 0 (va_A [oc h_this 8 fs_this, ic h_text k_text 4000 f_text, jc h_words k_words 26 f_words, ic h_tokenKind k_tokenKind 4001 f_tokenKind, ic h_tokenStart k_tokenStart 4001 f_tokenStart, jc h_tokenName k_tokenName 4001 f_tokenName] sz) := by
  refine Met.ofW (cc := b_Source_scanToken) (maxL := 4) (ret := (some .int)) (by decide) rfl ?_
  intro p e s m args below meth c s₁ B hml hv
  obtain ⟨rfl, hsz, hP, hK, hD0, henv⟩ := hv
  have hx := B.exec
  have hb := B.bytes
  have hr := B.returns
  have hT : ∀ w ∈ lw_good, w.before _ s = true := fun w h => atoms_spec (ws := w_Source_scanToken) B.pre w (List.mem_cons_of_mem _ h)
  have hown : s.vm.findClass R_Source = some m.cls := findClass_of_methodNamed B.named
  have hlocks := B.notSynchronized
  subst hsz
  have hD := hD0.self (sz := s.heap.size)
  generalize hAe : va_A [oc h_this 8 fs_this, ic h_text k_text 4000 f_text, jc h_words k_words 26 f_words, ic h_tokenKind k_tokenKind 4001 f_tokenKind, ic h_tokenStart k_tokenStart 4001 f_tokenStart, jc h_tokenName k_tokenName 4001 f_tokenName] s.heap.size = A at hD henv ⊢
  have hA : ∀ q : Nat, s.heap.size ≤ q → A q := fun q h => by rw [← hAe]; exact Or.inr h
  have hS : va_S A s.heap s.heap [] := va_S.rf
  have hP : va_P (dC, dI) cls_all [oc h_this 8 fs_this, ic h_text k_text 4000 f_text, jc h_words k_words 26 f_words, ic h_tokenKind k_tokenKind 4001 f_tokenKind, ic h_tokenStart k_tokenStart 4001 f_tokenStart, jc h_tokenName k_tokenName 4001 f_tokenName] s.heap := hP
  have hl := lv_entry ([.ref h_this, .int (nI a)]) (n := 4) (Nat.le_of_ble_eq_true rfl)
  rw [lg_entry_eq]
  generalize (lg_sl ([.ref h_this, .int (nI a)]) ++ List.replicate (4 - (lg_sl ([.ref h_this, .int (nI a)])).length) Slot.unset).toArray = ls at hl ⊢
  have hl : lv_has ls 4 [(0, .ref h_this), (1, .int (nI a))] := hl
  refine lv_aload_n hx hb d_Source_scanToken_0 rfl (lv_at hl 0 rfl) ?_
  refine va_get (D := (dC, dI)) (ci := 8) (v := .ref h_text) (C := R_Source) (T := F_Source) (N := 16) hx hb hT i_Source hown hK hP 0 rfl rfl 9 (by decide) (hT _ fl_Source_73) (fun _ h9 => h9) g_this_text d_Source_scanToken_1 ?_
  refine lv_iload_n hx hb d_Source_scanToken_4 rfl (lv_at hl 1 rfl) ?_
  refine va_cald hx hb hK hP 1 0 rfl rfl (vp_in_nI (by omega) (by decide)) d_Source_scanToken_5 ?_
  refine lv_topi (fun x1 e1 => ?_)
  obtain rfl : x1 = f_text a := e1.trans (congrArg f_text (nI_clamp (by omega)))
  refine lv_istore_n (lv' := [(2, .int (f_text a)), (0, .ref h_this), (1, .int (nI a))]) hx hb d_Source_scanToken_6 rfl hl (by decide) rfl (fun ls hl => ?_)
  refine lv_iload_n hx hb d_Source_scanToken_7 rfl (lv_at hl 0 rfl) ?_
  refine lv_bipush (v := 32) hx hb d_Source_scanToken_8 (by decide) ?_
  refine lv_icmp_ne (tgt := 17) hx hb d_Source_scanToken_10 (by decide) (fun c2 => ?_) (fun c2 => ?_)
  · have h32 : ¬ f_text a = 32 := c2
    refine lv_iload_n hx hb d_Source_scanToken_17 rfl (lv_at hl 0 rfl) ?_
    refine lv_bipush (v := 39) hx hb d_Source_scanToken_18 (by decide) ?_
    refine lv_icmp_eq (tgt := 30) hx hb d_Source_scanToken_20 (by decide) (fun c3 => ?_) (fun c3 => ?_)
    · have hrow : f_text a = 39 ∨ cL (f_text a) := Or.inl c3
      refine lv_aload_n hx hb d_Source_scanToken_30 rfl (lv_at hl 1 rfl) ?_
      refine lv_iload_n hx hb d_Source_scanToken_31 rfl (lv_at hl 2 rfl) ?_
      have hPc := hP.sub (ws' := [oc h_this 8 fs_this, ic h_text k_text 4000 f_text, jc h_words k_words 26 f_words, ic h_tokenKind k_tokenKind 4001 f_tokenKind, ic h_tokenStart k_tokenStart 4001 f_tokenStart, jc h_tokenName k_tokenName 4001 f_tokenName]) [0, 1, 2, 3, 4, 5] rfl
      have hKc := hK.sub (tys' := [(k_text, .char), (k_words, .long), (k_tokenKind, .int), (k_tokenStart, .int), (k_tokenName, .long)]) [0, 1, 2, 3, 4] rfl
      have hDc := hD.sub (ws' := [oc h_this 8 fs_this, ic h_text k_text 4000 f_text, jc h_words k_words 26 f_words, ic h_tokenKind k_tokenKind 4001 f_tokenKind, ic h_tokenStart k_tokenStart 4001 f_tokenStart, jc h_tokenName k_tokenName 4001 f_tokenName]) [0, 1, 2, 3, 4, 5] (by decide) rfl
      have hFc := va_free (wc := [oc h_this 8 fs_this, ic h_text k_text 4000 f_text, jc h_words k_words 26 f_words, ic h_tokenKind k_tokenKind 4001 f_tokenKind, ic h_tokenStart k_tokenStart 4001 f_tokenStart, jc h_tokenName k_tokenName 4001 f_tokenName]) hD hS hA [0, 1, 2, 3, 4, 5] rfl
      refine va_calli (va_runV (As := [.int (nI a)]) (rest := []) ⟨hx, hb, hml, hown, hT⟩ (c_Source_scanRow l dC dI (sz := s.heap.size) (h_this := h_this) (h_text := h_text) (h_words := h_words) (h_tokenKind := h_tokenKind) (h_tokenStart := h_tokenStart) (h_tokenName := h_tokenName) (fs_this := fs_this) (k_text := k_text) (f_text := f_text) (k_words := k_words) (f_words := f_words) (k_tokenKind := k_tokenKind) (f_tokenKind := f_tokenKind) (k_tokenStart := k_tokenStart) (f_tokenStart := f_tokenStart) (k_tokenName := k_tokenName) (f_tokenName := f_tokenName) (a := a) (tz := tz) (tn := tn) (len_this := (by first | exact len_this | (simp only [List.length_set]; exact len_this))) (g_this_text := g_this_text) (g_this_words := g_this_words) (g_this_length := g_this_length) (g_this_tokens := g_this_tokens) (g_this_tokenKind := g_this_tokenKind) (g_this_tokenStart := g_this_tokenStart) (g_this_tokenName := g_this_tokenName) (ha := ha) (hz := hz) (ht0 := ht0)) (cwV 1 hT (gV ml_Source_106 im_Source_scanRow se_Source_scanRow ini_Source co_Source_scanRow) rfl rfl rfl (by decide +kernel) ⟨Nat.le_of_ble_eq_true rfl, Nat.le_of_ble_eq_true rfl⟩) ⟨fbQ, va_recv hKc hPc (ci := 8) (q0 := 0) rfl rfl, fun U hU hW => ⟨rfl, by rw [hU], by rw [hU]; exact hPc, va_K.moved hW.alike hKc, hDc.weaken (fun _ _ _ _ => trivial)⟩⟩ rfl rfl hl.1 rfl (lv_room (Nat.le_of_ble_eq_true rfl)) d_Source_scanToken_32 ⟨Nat.le_of_ble_eq_true rfl, Nat.le_of_ble_eq_true rfl⟩) hS (fun q _ h => hFc q h) hFc (fun r4 u t H1 locs ht hvm hw hB hz1 hk1 hS => ?_)
      subst hw
      obtain ⟨fs_this_4, f_tokenKind_4, f_tokenStart_4, f_tokenName_4, ⟨hw4_0, hw4_1, hw4_2, hw4_3, hw4_4, hw4_5, hw4_6⟩, hP1, hK1, hD1⟩ := hB
      rw [ht] at hP1
      have hK1 := va_K.moved hvm.symm hK1
      obtain ⟨hP, hD⟩ := va_join (wr := []) (w1 := [oc h_this 8 fs_this_4, ic h_text k_text 4000 f_text, jc h_words k_words 26 f_words, ic h_tokenKind k_tokenKind 4001 f_tokenKind_4, ic h_tokenStart k_tokenStart 4001 f_tokenStart_4, jc h_tokenName k_tokenName 4001 f_tokenName_4]) hP hD [0, 1, 2, 3, 4, 5] [] rfl rfl (by decide) (by decide) hk1 hFc hP1 hD1
      generalize H1 = H at hP hS ⊢
      have hP : va_P (dC, dI) cls_all [oc h_this 8 fs_this_4, ic h_text k_text 4000 f_text, jc h_words k_words 26 f_words, ic h_tokenKind k_tokenKind 4001 f_tokenKind_4, ic h_tokenStart k_tokenStart 4001 f_tokenStart_4, jc h_tokenName k_tokenName 4001 f_tokenName_4] H := hP
      have hD : va_D A [oc h_this 8 fs_this_4, ic h_text k_text 4000 f_text, jc h_words k_words 26 f_words, ic h_tokenKind k_tokenKind 4001 f_tokenKind_4, ic h_tokenStart k_tokenStart 4001 f_tokenStart_4, jc h_tokenName k_tokenName 4001 f_tokenName_4] := hD
      have eR : sNext f_text tz a = a + 1 + sN f_text tz a := by unfold sNext; rw [if_neg h32, if_pos hrow]
      have eK : tokK f_text f_words tz a = sK f_text f_words tz a := by unfold tokK; rw [if_pos hrow]
      have eV : tokV f_text tz a = sV f_text tz a := by unfold tokV; rw [if_pos hrow]
      have hP9 := hP.sub (ws' := [oc h_this 8 fs_this_4, ic h_text k_text 4000 f_text, jc h_words k_words 26 f_words, ic h_tokenKind k_tokenKind 4001 f_tokenKind_4, ic h_tokenStart k_tokenStart 4001 f_tokenStart_4, jc h_tokenName k_tokenName 4001 f_tokenName_4]) [0, 1, 2, 3, 4, 5] rfl
      have hD9 := hD.sub (ws' := [oc h_this 8 fs_this_4, ic h_text k_text 4000 f_text, jc h_words k_words 26 f_words, ic h_tokenKind k_tokenKind 4001 f_tokenKind_4, ic h_tokenStart k_tokenStart 4001 f_tokenStart_4, jc h_tokenName k_tokenName 4001 f_tokenName_4]) [0, 1, 2, 3, 4, 5] (by decide) rfl
      have hK9 := hK.sub (tys' := [(k_text, .char), (k_words, .long), (k_tokenKind, .int), (k_tokenStart, .int), (k_tokenName, .long)]) [0, 1, 2, 3, 4] rfl
      have hv5 : fs_this_4[14]? = some (.int (nI (tn + 1))) := hw4_2
      exact W.iret (v := r4) hx hb hr (fun t ht hW => ⟨⟨r4, r4, rfl, rfl, fs_this_4, f_tokenKind_4, f_tokenStart_4, f_tokenName_4, ⟨(by first | exact hw4_0 | (simp only [List.length_set]; exact hw4_0)), (fun j n14 => ((hw4_1 j n14).trans rfl)), (by first | exact hv5 | (rw [hv5]; refine congrArg some (congrArg _ ?_); first | exact (if_pos h32).symm | exact (if_neg h32).symm | (rw [eR]; done) | (rw [eR]; assumption))), (by first | exact (if_pos h32).symm | (rw [if_neg h32, eK]; assumption) | (rw [if_neg h32, eV]; assumption) | (rw [if_neg h32]; assumption)), (by first | exact (if_pos h32).symm | (rw [if_neg h32, eK]; assumption) | (rw [if_neg h32, eV]; assumption) | (rw [if_neg h32]; assumption)), (by first | exact (if_pos h32).symm | (rw [if_neg h32, eK]; assumption) | (rw [if_neg h32, eV]; assumption) | (rw [if_neg h32]; assumption)), (by first | exact (if_pos h32).symm | exact (if_neg h32).symm | (rw [eR]; done) | (rw [eR]; assumption))⟩, by rw [ht]; exact hP9, va_K.moved hW.alike hK9, hD9⟩, hS.F ht⟩) hS.2.2 d_Source_scanToken_35
    · refine lv_iload_n hx hb d_Source_scanToken_23 rfl (lv_at hl 0 rfl) ?_
      have hPc := hP.sub (ws' := []) [] rfl
      have hKc := hK.sub (tys' := []) [] rfl
      refine vp_callSi (va_Run.run (va_runS (As := [.int (f_text a)]) (rest := []) ⟨hx, hb, hml, hown, hT⟩ (c_Source_isLetterOrDigit l dC dI (p1 := (f_text a)) ) (va_cwS 1 hT (gS ml_Source_102 st_Source_isLetterOrDigit ini_Source co_Source_isLetterOrDigit) rfl rfl rfl (by decide +kernel) ⟨Nat.le_of_ble_eq_true rfl, Nat.le_of_ble_eq_true rfl⟩) ⟨fbS, fun U hU hW => ⟨rfl, by rw [hU]; exact hPc, va_K.moved hW.alike hKc⟩⟩ rfl rfl hl.1 rfl (lv_room (Nat.le_of_ble_eq_true rfl)) d_Source_scanToken_24 ⟨Nat.le_of_ble_eq_true rfl, Nat.le_of_ble_eq_true rfl⟩)) (fun r6 hr6 => ?_)
      refine lv_if_eq (tgt := 36) hx hb d_Source_scanToken_27 (by decide) (fun c7 => ?_) (fun c7 => ?_)
      · have hnr : ¬ (f_text a = 39 ∨ cL (f_text a)) := fun z => z.elim c3 (cL_not (nz hr6 c7))
        refine lv_iload_n hx hb d_Source_scanToken_36 rfl (lv_at hl 0 rfl) ?_
        refine lv_bipush (v := 61) hx hb d_Source_scanToken_37 (by decide) ?_
        refine lv_icmp_ne (tgt := 77) hx hb d_Source_scanToken_39 (by decide) (fun c8 => ?_) (fun c8 => ?_)
        · have hne : ¬ (f_text a = 61 ∧ a + 1 < tz ∧ f_text (a + 1) = 61) := fun z => by first | exact c8 z.1 | exact c8 z.2.2 | (have := z.2.1; omega)
          refine va_ldcS (own := R_Source) (index := 113) (q := ad 3) hx hb hown (henv.2.2 3 (by decide)).2 d_Source_scanToken_77 ?_
          refine lv_iload_n hx hb d_Source_scanToken_79 rfl (lv_at hl 0 rfl) ?_
          have hPc := hP.sub (ws' := []) [] rfl
          have hKc := hK.sub (tys' := []) [] rfl
          refine vp_callSi (va_Run.run (va_runV (As := [.int (f_text a)]) (rest := []) ⟨hx, hb, hml, hown, hT⟩ (c_Str_indexOf_l l dC dI (ad := ad) (av := av) (p1 := (f_text a)) (i := 3) (hi := (by decide)) (h0l := (by decide)) (hc := (hch a (by omega)))) (cwV 1 hT (gV ml_Source_115 im_Str_indexOf_I se_Str_indexOf_I ini_Str co_Str_indexOf_I) rfl rfl rfl (by decide +kernel) ⟨Nat.le_of_ble_eq_true rfl, Nat.le_of_ble_eq_true rfl⟩) ⟨fbSe, (env_recv henv (by decide) hS), fun U hU hW => ⟨rfl, by rw [hU]; exact hPc, va_K.moved hW.alike hKc, env0.hand henv hS hU hW (fun q h => h.elim)⟩⟩ rfl rfl hl.1 rfl (lv_room (Nat.le_of_ble_eq_true rfl)) d_Source_scanToken_80 ⟨Nat.le_of_ble_eq_true rfl, Nat.le_of_ble_eq_true rfl⟩)) (fun r9 hr9 => ?_)
          obtain rfl : r9 = ff (isC 3 (f_text a)) 0 22 := hr9
          refine lv_istore_n (lv' := [(3, .int (ff (isC 3 (f_text a)) 0 22)), (2, .int (f_text a)), (0, .ref h_this), (1, .int (nI a))]) hx hb d_Source_scanToken_83 rfl hl (by decide) rfl (fun ls hl => ?_)
          refine lv_aload_n hx hb d_Source_scanToken_84 rfl (lv_at hl 2 rfl) ?_
          refine lv_iload_n hx hb d_Source_scanToken_85 rfl (lv_at hl 0 rfl) ?_
          refine lv_if_ge (tgt := 93) hx hb d_Source_scanToken_86 (by decide) (fun c10 => ?_) (fun c10 => ?_)
          · have hsg : 0 ≤ ff (isC 3 (f_text a)) 0 22 := c10
            refine lv_bipush (v := 40) hx hb d_Source_scanToken_93 (by decide) ?_
            refine lv_iload_n hx hb d_Source_scanToken_95 rfl (lv_at hl 0 rfl) ?_
            refine lv_iadd hx hb d_Source_scanToken_96 ?_
            refine lv_topi (fun x11 e11 => ?_)
            obtain rfl : x11 = 40 + ff (isC 3 (f_text a)) 0 22 := e11
            refine lv_iload_n hx hb d_Source_scanToken_97 rfl (lv_at hl 3 rfl) ?_
            refine lv_lconst (v := 0) hx hb d_Source_scanToken_98 (by decide) ?_
            have hPc := hP.sub (ws' := [oc h_this 8 fs_this, ic h_tokenKind k_tokenKind 4001 f_tokenKind, ic h_tokenStart k_tokenStart 4001 f_tokenStart, jc h_tokenName k_tokenName 4001 f_tokenName]) [0, 3, 4, 5] rfl
            have hKc := hK.sub (tys' := [(k_tokenKind, .int), (k_tokenStart, .int), (k_tokenName, .long)]) [2, 3, 4] rfl
            have hDc := hD.sub (ws' := [oc h_this 8 fs_this, ic h_tokenKind k_tokenKind 4001 f_tokenKind, ic h_tokenStart k_tokenStart 4001 f_tokenStart, jc h_tokenName k_tokenName 4001 f_tokenName]) [0, 3, 4, 5] (by decide) rfl
            have hFc := va_free (wc := [oc h_this 8 fs_this, ic h_tokenKind k_tokenKind 4001 f_tokenKind, ic h_tokenStart k_tokenStart 4001 f_tokenStart, jc h_tokenName k_tokenName 4001 f_tokenName]) hD hS hA [0, 3, 4, 5] rfl
            refine va_callv (va_runV (As := [.int (40 + ff (isC 3 (f_text a)) 0 22), .int (nI a), .long 0]) (rest := []) ⟨hx, hb, hml, hown, hT⟩ (c_Source_addToken l dC dI (sz := s.heap.size) (h_this := h_this) (h_tokenKind := h_tokenKind) (h_tokenStart := h_tokenStart) (h_tokenName := h_tokenName) (fs_this := fs_this) (k_tokenKind := k_tokenKind) (f_tokenKind := f_tokenKind) (k_tokenStart := k_tokenStart) (f_tokenStart := f_tokenStart) (k_tokenName := k_tokenName) (f_tokenName := f_tokenName) (p1 := (40 + ff (isC 3 (f_text a)) 0 22)) (p2 := (nI a)) (p3 := 0) (tn := tn) (len_this := (by first | exact len_this | (simp only [List.length_set]; exact len_this))) (g_this_tokens := g_this_tokens) (g_this_tokenKind := g_this_tokenKind) (g_this_tokenStart := g_this_tokenStart) (g_this_tokenName := g_this_tokenName) (ht0 := ht0)) (cwV 3 hT (gV ml_Source_109 im_Source_addToken se_Source_addToken ini_Source co_Source_addToken) rfl rfl rfl (by decide +kernel) ⟨Nat.le_of_ble_eq_true rfl, Nat.le_of_ble_eq_true rfl⟩) ⟨fbQ, va_recv hKc hPc (ci := 8) (q0 := 0) rfl rfl, fun U hU hW => ⟨rfl, by rw [hU], by rw [hU]; exact hPc, va_K.moved hW.alike hKc, hDc.weaken (fun _ _ _ _ => trivial)⟩⟩ rfl rfl hl.1 rfl (lv_room (Nat.le_of_ble_eq_true rfl)) d_Source_scanToken_99 ⟨Nat.le_of_ble_eq_true rfl, Nat.le_of_ble_eq_true rfl⟩) hS (fun q _ h => hFc q h) hFc (fun u t H1 locs ht hvm hw hB hz1 hk1 hS => ?_)
            obtain ⟨fs_this_12, f_tokenKind_12, f_tokenStart_12, f_tokenName_12, ⟨hw12_0, hw12_1, hw12_2, hw12_3, hw12_4, hw12_5⟩, hP1, hK1, hD1⟩ := hB
            rw [ht] at hP1
            have hK1 := va_K.moved hvm.symm hK1
            obtain ⟨hP, hD⟩ := va_join (wr := [ic h_text k_text 4000 f_text, jc h_words k_words 26 f_words]) (w1 := [oc h_this 8 fs_this_12, ic h_tokenKind k_tokenKind 4001 f_tokenKind_12, ic h_tokenStart k_tokenStart 4001 f_tokenStart_12, jc h_tokenName k_tokenName 4001 f_tokenName_12]) hP hD [0, 3, 4, 5] [1, 2] rfl rfl (by decide) (by decide) hk1 hFc hP1 hD1
            generalize H1 = H at hP hS ⊢
            have hP : va_P (dC, dI) cls_all [ic h_text k_text 4000 f_text, jc h_words k_words 26 f_words, oc h_this 8 fs_this_12, ic h_tokenKind k_tokenKind 4001 f_tokenKind_12, ic h_tokenStart k_tokenStart 4001 f_tokenStart_12, jc h_tokenName k_tokenName 4001 f_tokenName_12] H := hP
            have hD : va_D A [ic h_text k_text 4000 f_text, jc h_words k_words 26 f_words, oc h_this 8 fs_this_12, ic h_tokenKind k_tokenKind 4001 f_tokenKind_12, ic h_tokenStart k_tokenStart 4001 f_tokenStart_12, jc h_tokenName k_tokenName 4001 f_tokenName_12] := hD
            refine lv_iload_n hx hb d_Source_scanToken_102 rfl (lv_at hl 3 rfl) ?_
            refine lv_iconst (v := 1) hx hb d_Source_scanToken_103 (by decide) ?_
            refine lv_iadd hx hb d_Source_scanToken_104 ?_
            refine lv_topi (fun x13 e13 => ?_)
            obtain rfl : x13 = nI (a + 1) := e13.trans (nI_add a 1)
            have eR : sNext f_text tz a = a + 1 := by unfold sNext; rw [if_neg h32, if_neg hnr, if_neg hne]
            have eK : tokK f_text f_words tz a = 40 + ff (isC 3 (f_text a)) 0 22 := by unfold tokK; rw [if_neg hnr, if_neg hne, if_pos hsg]
            have eV : tokV f_text tz a = 0 := by unfold tokV; rw [if_neg hnr]
            have hP9 := hP.sub (ws' := [oc h_this 8 fs_this_12, ic h_text k_text 4000 f_text, jc h_words k_words 26 f_words, ic h_tokenKind k_tokenKind 4001 f_tokenKind_12, ic h_tokenStart k_tokenStart 4001 f_tokenStart_12, jc h_tokenName k_tokenName 4001 f_tokenName_12]) [2, 0, 1, 3, 4, 5] rfl
            have hD9 := hD.sub (ws' := [oc h_this 8 fs_this_12, ic h_text k_text 4000 f_text, jc h_words k_words 26 f_words, ic h_tokenKind k_tokenKind 4001 f_tokenKind_12, ic h_tokenStart k_tokenStart 4001 f_tokenStart_12, jc h_tokenName k_tokenName 4001 f_tokenName_12]) [2, 0, 1, 3, 4, 5] (by decide) rfl
            have hK9 := hK.sub (tys' := [(k_text, .char), (k_words, .long), (k_tokenKind, .int), (k_tokenStart, .int), (k_tokenName, .long)]) [0, 1, 2, 3, 4] rfl
            have hv14 : fs_this_12[14]? = some (.int (nI (tn + 1))) := hw12_2
            exact W.iret (v := (nI (a + 1))) hx hb hr (fun t ht hW => ⟨⟨(nI (a + 1)), (nI (a + 1)), rfl, rfl, fs_this_12, f_tokenKind_12, f_tokenStart_12, f_tokenName_12, ⟨(by first | exact hw12_0 | (simp only [List.length_set]; exact hw12_0)), (fun j n14 => ((hw12_1 j n14).trans rfl)), (by first | exact hv14 | (rw [hv14]; refine congrArg some (congrArg _ ?_); first | exact (if_pos h32).symm | exact (if_neg h32).symm | (rw [eR]; done) | (rw [eR]; assumption))), (by first | exact (if_pos h32).symm | (rw [if_neg h32, eK]; assumption) | (rw [if_neg h32, eV]; assumption) | (rw [if_neg h32]; assumption)), (by first | exact (if_pos h32).symm | (rw [if_neg h32, eK]; assumption) | (rw [if_neg h32, eV]; assumption) | (rw [if_neg h32]; assumption)), (by first | exact (if_pos h32).symm | (rw [if_neg h32, eK]; assumption) | (rw [if_neg h32, eV]; assumption) | (rw [if_neg h32]; assumption)), (by first | exact (if_pos h32).symm | exact (if_neg h32).symm | (rw [eR]; done) | (rw [eR]; assumption))⟩, by rw [ht]; exact hP9, va_K.moved hW.alike hK9, hD9⟩, hS.F ht⟩) hS.2.2 d_Source_scanToken_105
          · have hsg : ¬ 0 ≤ ff (isC 3 (f_text a)) 0 22 := c10
            refine lv_iconst (v := 1) hx hb d_Source_scanToken_89 (by decide) ?_
            refine lv_goto (tgt := 97) hx hb d_Source_scanToken_90 (by decide) ?_
            refine lv_iload_n hx hb d_Source_scanToken_97 rfl (lv_at hl 3 rfl) ?_
            refine lv_lconst (v := 0) hx hb d_Source_scanToken_98 (by decide) ?_
            have hPc := hP.sub (ws' := [oc h_this 8 fs_this, ic h_tokenKind k_tokenKind 4001 f_tokenKind, ic h_tokenStart k_tokenStart 4001 f_tokenStart, jc h_tokenName k_tokenName 4001 f_tokenName]) [0, 3, 4, 5] rfl
            have hKc := hK.sub (tys' := [(k_tokenKind, .int), (k_tokenStart, .int), (k_tokenName, .long)]) [2, 3, 4] rfl
            have hDc := hD.sub (ws' := [oc h_this 8 fs_this, ic h_tokenKind k_tokenKind 4001 f_tokenKind, ic h_tokenStart k_tokenStart 4001 f_tokenStart, jc h_tokenName k_tokenName 4001 f_tokenName]) [0, 3, 4, 5] (by decide) rfl
            have hFc := va_free (wc := [oc h_this 8 fs_this, ic h_tokenKind k_tokenKind 4001 f_tokenKind, ic h_tokenStart k_tokenStart 4001 f_tokenStart, jc h_tokenName k_tokenName 4001 f_tokenName]) hD hS hA [0, 3, 4, 5] rfl
            refine va_callv (va_runV (As := [.int 1, .int (nI a), .long 0]) (rest := []) ⟨hx, hb, hml, hown, hT⟩ (c_Source_addToken l dC dI (sz := s.heap.size) (h_this := h_this) (h_tokenKind := h_tokenKind) (h_tokenStart := h_tokenStart) (h_tokenName := h_tokenName) (fs_this := fs_this) (k_tokenKind := k_tokenKind) (f_tokenKind := f_tokenKind) (k_tokenStart := k_tokenStart) (f_tokenStart := f_tokenStart) (k_tokenName := k_tokenName) (f_tokenName := f_tokenName) (p1 := 1) (p2 := (nI a)) (p3 := 0) (tn := tn) (len_this := (by first | exact len_this | (simp only [List.length_set]; exact len_this))) (g_this_tokens := g_this_tokens) (g_this_tokenKind := g_this_tokenKind) (g_this_tokenStart := g_this_tokenStart) (g_this_tokenName := g_this_tokenName) (ht0 := ht0)) (cwV 3 hT (gV ml_Source_109 im_Source_addToken se_Source_addToken ini_Source co_Source_addToken) rfl rfl rfl (by decide +kernel) ⟨Nat.le_of_ble_eq_true rfl, Nat.le_of_ble_eq_true rfl⟩) ⟨fbQ, va_recv hKc hPc (ci := 8) (q0 := 0) rfl rfl, fun U hU hW => ⟨rfl, by rw [hU], by rw [hU]; exact hPc, va_K.moved hW.alike hKc, hDc.weaken (fun _ _ _ _ => trivial)⟩⟩ rfl rfl hl.1 rfl (lv_room (Nat.le_of_ble_eq_true rfl)) d_Source_scanToken_99 ⟨Nat.le_of_ble_eq_true rfl, Nat.le_of_ble_eq_true rfl⟩) hS (fun q _ h => hFc q h) hFc (fun u t H1 locs ht hvm hw hB hz1 hk1 hS => ?_)
            obtain ⟨fs_this_15, f_tokenKind_15, f_tokenStart_15, f_tokenName_15, ⟨hw15_0, hw15_1, hw15_2, hw15_3, hw15_4, hw15_5⟩, hP1, hK1, hD1⟩ := hB
            rw [ht] at hP1
            have hK1 := va_K.moved hvm.symm hK1
            obtain ⟨hP, hD⟩ := va_join (wr := [ic h_text k_text 4000 f_text, jc h_words k_words 26 f_words]) (w1 := [oc h_this 8 fs_this_15, ic h_tokenKind k_tokenKind 4001 f_tokenKind_15, ic h_tokenStart k_tokenStart 4001 f_tokenStart_15, jc h_tokenName k_tokenName 4001 f_tokenName_15]) hP hD [0, 3, 4, 5] [1, 2] rfl rfl (by decide) (by decide) hk1 hFc hP1 hD1
            generalize H1 = H at hP hS ⊢
            have hP : va_P (dC, dI) cls_all [ic h_text k_text 4000 f_text, jc h_words k_words 26 f_words, oc h_this 8 fs_this_15, ic h_tokenKind k_tokenKind 4001 f_tokenKind_15, ic h_tokenStart k_tokenStart 4001 f_tokenStart_15, jc h_tokenName k_tokenName 4001 f_tokenName_15] H := hP
            have hD : va_D A [ic h_text k_text 4000 f_text, jc h_words k_words 26 f_words, oc h_this 8 fs_this_15, ic h_tokenKind k_tokenKind 4001 f_tokenKind_15, ic h_tokenStart k_tokenStart 4001 f_tokenStart_15, jc h_tokenName k_tokenName 4001 f_tokenName_15] := hD
            refine lv_iload_n hx hb d_Source_scanToken_102 rfl (lv_at hl 3 rfl) ?_
            refine lv_iconst (v := 1) hx hb d_Source_scanToken_103 (by decide) ?_
            refine lv_iadd hx hb d_Source_scanToken_104 ?_
            refine lv_topi (fun x16 e16 => ?_)
            obtain rfl : x16 = nI (a + 1) := e16.trans (nI_add a 1)
            have eR : sNext f_text tz a = a + 1 := by unfold sNext; rw [if_neg h32, if_neg hnr, if_neg hne]
            have eK : tokK f_text f_words tz a = 1 := by unfold tokK; rw [if_neg hnr, if_neg hne, if_neg hsg]
            have eV : tokV f_text tz a = 0 := by unfold tokV; rw [if_neg hnr]
            have hP9 := hP.sub (ws' := [oc h_this 8 fs_this_15, ic h_text k_text 4000 f_text, jc h_words k_words 26 f_words, ic h_tokenKind k_tokenKind 4001 f_tokenKind_15, ic h_tokenStart k_tokenStart 4001 f_tokenStart_15, jc h_tokenName k_tokenName 4001 f_tokenName_15]) [2, 0, 1, 3, 4, 5] rfl
            have hD9 := hD.sub (ws' := [oc h_this 8 fs_this_15, ic h_text k_text 4000 f_text, jc h_words k_words 26 f_words, ic h_tokenKind k_tokenKind 4001 f_tokenKind_15, ic h_tokenStart k_tokenStart 4001 f_tokenStart_15, jc h_tokenName k_tokenName 4001 f_tokenName_15]) [2, 0, 1, 3, 4, 5] (by decide) rfl
            have hK9 := hK.sub (tys' := [(k_text, .char), (k_words, .long), (k_tokenKind, .int), (k_tokenStart, .int), (k_tokenName, .long)]) [0, 1, 2, 3, 4] rfl
            have hv17 : fs_this_15[14]? = some (.int (nI (tn + 1))) := hw15_2
            exact W.iret (v := (nI (a + 1))) hx hb hr (fun t ht hW => ⟨⟨(nI (a + 1)), (nI (a + 1)), rfl, rfl, fs_this_15, f_tokenKind_15, f_tokenStart_15, f_tokenName_15, ⟨(by first | exact hw15_0 | (simp only [List.length_set]; exact hw15_0)), (fun j n14 => ((hw15_1 j n14).trans rfl)), (by first | exact hv17 | (rw [hv17]; refine congrArg some (congrArg _ ?_); first | exact (if_pos h32).symm | exact (if_neg h32).symm | (rw [eR]; done) | (rw [eR]; assumption))), (by first | exact (if_pos h32).symm | (rw [if_neg h32, eK]; assumption) | (rw [if_neg h32, eV]; assumption) | (rw [if_neg h32]; assumption)), (by first | exact (if_pos h32).symm | (rw [if_neg h32, eK]; assumption) | (rw [if_neg h32, eV]; assumption) | (rw [if_neg h32]; assumption)), (by first | exact (if_pos h32).symm | (rw [if_neg h32, eK]; assumption) | (rw [if_neg h32, eV]; assumption) | (rw [if_neg h32]; assumption)), (by first | exact (if_pos h32).symm | exact (if_neg h32).symm | (rw [eR]; done) | (rw [eR]; assumption))⟩, by rw [ht]; exact hP9, va_K.moved hW.alike hK9, hD9⟩, hS.F ht⟩) hS.2.2 d_Source_scanToken_105
        · refine lv_iload_n hx hb d_Source_scanToken_42 rfl (lv_at hl 2 rfl) ?_
          refine lv_iconst (v := 1) hx hb d_Source_scanToken_43 (by decide) ?_
          refine lv_iadd hx hb d_Source_scanToken_44 ?_
          refine lv_topi (fun x18 e18 => ?_)
          obtain rfl : x18 = nI (a + 1) := e18.trans (nI_add a 1)
          refine lv_aload_n hx hb d_Source_scanToken_45 rfl (lv_at hl 1 rfl) ?_
          refine va_get (D := (dC, dI)) (ci := 8) (v := .int (nI tz)) (C := R_Source) (T := F_Source) (N := 16) hx hb hT i_Source hown hK hP 0 rfl rfl 10 (by decide) (hT _ fl_Source_83) (fun _ h9 => h9) g_this_length d_Source_scanToken_46 ?_
          refine lv_icmp_ge (tgt := 77) hx hb d_Source_scanToken_49 (by decide) (fun c19 => ?_) (fun c19 => ?_)
          · have b19 : (tz) ≤ ((a + 1)) := (ni_le (by omega) (by omega)).1 c19
            have hne : ¬ (f_text a = 61 ∧ a + 1 < tz ∧ f_text (a + 1) = 61) := fun z => by first | exact c19 z.1 | exact c19 z.2.2 | (have := z.2.1; omega)
            refine va_ldcS (own := R_Source) (index := 113) (q := ad 3) hx hb hown (henv.2.2 3 (by decide)).2 d_Source_scanToken_77 ?_
            refine lv_iload_n hx hb d_Source_scanToken_79 rfl (lv_at hl 0 rfl) ?_
            have hPc := hP.sub (ws' := []) [] rfl
            have hKc := hK.sub (tys' := []) [] rfl
            refine vp_callSi (va_Run.run (va_runV (As := [.int (f_text a)]) (rest := []) ⟨hx, hb, hml, hown, hT⟩ (c_Str_indexOf_l l dC dI (ad := ad) (av := av) (p1 := (f_text a)) (i := 3) (hi := (by decide)) (h0l := (by decide)) (hc := (hch a (by omega)))) (cwV 1 hT (gV ml_Source_115 im_Str_indexOf_I se_Str_indexOf_I ini_Str co_Str_indexOf_I) rfl rfl rfl (by decide +kernel) ⟨Nat.le_of_ble_eq_true rfl, Nat.le_of_ble_eq_true rfl⟩) ⟨fbSe, (env_recv henv (by decide) hS), fun U hU hW => ⟨rfl, by rw [hU]; exact hPc, va_K.moved hW.alike hKc, env0.hand henv hS hU hW (fun q h => h.elim)⟩⟩ rfl rfl hl.1 rfl (lv_room (Nat.le_of_ble_eq_true rfl)) d_Source_scanToken_80 ⟨Nat.le_of_ble_eq_true rfl, Nat.le_of_ble_eq_true rfl⟩)) (fun r20 hr20 => ?_)
            obtain rfl : r20 = ff (isC 3 (f_text a)) 0 22 := hr20
            refine lv_istore_n (lv' := [(3, .int (ff (isC 3 (f_text a)) 0 22)), (2, .int (f_text a)), (0, .ref h_this), (1, .int (nI a))]) hx hb d_Source_scanToken_83 rfl hl (by decide) rfl (fun ls hl => ?_)
            refine lv_aload_n hx hb d_Source_scanToken_84 rfl (lv_at hl 2 rfl) ?_
            refine lv_iload_n hx hb d_Source_scanToken_85 rfl (lv_at hl 0 rfl) ?_
            refine lv_if_ge (tgt := 93) hx hb d_Source_scanToken_86 (by decide) (fun c21 => ?_) (fun c21 => ?_)
            · have hsg : 0 ≤ ff (isC 3 (f_text a)) 0 22 := c21
              refine lv_bipush (v := 40) hx hb d_Source_scanToken_93 (by decide) ?_
              refine lv_iload_n hx hb d_Source_scanToken_95 rfl (lv_at hl 0 rfl) ?_
              refine lv_iadd hx hb d_Source_scanToken_96 ?_
              refine lv_topi (fun x22 e22 => ?_)
              obtain rfl : x22 = 40 + ff (isC 3 (f_text a)) 0 22 := e22
              refine lv_iload_n hx hb d_Source_scanToken_97 rfl (lv_at hl 3 rfl) ?_
              refine lv_lconst (v := 0) hx hb d_Source_scanToken_98 (by decide) ?_
              have hPc := hP.sub (ws' := [oc h_this 8 fs_this, ic h_tokenKind k_tokenKind 4001 f_tokenKind, ic h_tokenStart k_tokenStart 4001 f_tokenStart, jc h_tokenName k_tokenName 4001 f_tokenName]) [0, 3, 4, 5] rfl
              have hKc := hK.sub (tys' := [(k_tokenKind, .int), (k_tokenStart, .int), (k_tokenName, .long)]) [2, 3, 4] rfl
              have hDc := hD.sub (ws' := [oc h_this 8 fs_this, ic h_tokenKind k_tokenKind 4001 f_tokenKind, ic h_tokenStart k_tokenStart 4001 f_tokenStart, jc h_tokenName k_tokenName 4001 f_tokenName]) [0, 3, 4, 5] (by decide) rfl
              have hFc := va_free (wc := [oc h_this 8 fs_this, ic h_tokenKind k_tokenKind 4001 f_tokenKind, ic h_tokenStart k_tokenStart 4001 f_tokenStart, jc h_tokenName k_tokenName 4001 f_tokenName]) hD hS hA [0, 3, 4, 5] rfl
              refine va_callv (va_runV (As := [.int (40 + ff (isC 3 (f_text a)) 0 22), .int (nI a), .long 0]) (rest := []) ⟨hx, hb, hml, hown, hT⟩ (c_Source_addToken l dC dI (sz := s.heap.size) (h_this := h_this) (h_tokenKind := h_tokenKind) (h_tokenStart := h_tokenStart) (h_tokenName := h_tokenName) (fs_this := fs_this) (k_tokenKind := k_tokenKind) (f_tokenKind := f_tokenKind) (k_tokenStart := k_tokenStart) (f_tokenStart := f_tokenStart) (k_tokenName := k_tokenName) (f_tokenName := f_tokenName) (p1 := (40 + ff (isC 3 (f_text a)) 0 22)) (p2 := (nI a)) (p3 := 0) (tn := tn) (len_this := (by first | exact len_this | (simp only [List.length_set]; exact len_this))) (g_this_tokens := g_this_tokens) (g_this_tokenKind := g_this_tokenKind) (g_this_tokenStart := g_this_tokenStart) (g_this_tokenName := g_this_tokenName) (ht0 := ht0)) (cwV 3 hT (gV ml_Source_109 im_Source_addToken se_Source_addToken ini_Source co_Source_addToken) rfl rfl rfl (by decide +kernel) ⟨Nat.le_of_ble_eq_true rfl, Nat.le_of_ble_eq_true rfl⟩) ⟨fbQ, va_recv hKc hPc (ci := 8) (q0 := 0) rfl rfl, fun U hU hW => ⟨rfl, by rw [hU], by rw [hU]; exact hPc, va_K.moved hW.alike hKc, hDc.weaken (fun _ _ _ _ => trivial)⟩⟩ rfl rfl hl.1 rfl (lv_room (Nat.le_of_ble_eq_true rfl)) d_Source_scanToken_99 ⟨Nat.le_of_ble_eq_true rfl, Nat.le_of_ble_eq_true rfl⟩) hS (fun q _ h => hFc q h) hFc (fun u t H1 locs ht hvm hw hB hz1 hk1 hS => ?_)
              obtain ⟨fs_this_23, f_tokenKind_23, f_tokenStart_23, f_tokenName_23, ⟨hw23_0, hw23_1, hw23_2, hw23_3, hw23_4, hw23_5⟩, hP1, hK1, hD1⟩ := hB
              rw [ht] at hP1
              have hK1 := va_K.moved hvm.symm hK1
              obtain ⟨hP, hD⟩ := va_join (wr := [ic h_text k_text 4000 f_text, jc h_words k_words 26 f_words]) (w1 := [oc h_this 8 fs_this_23, ic h_tokenKind k_tokenKind 4001 f_tokenKind_23, ic h_tokenStart k_tokenStart 4001 f_tokenStart_23, jc h_tokenName k_tokenName 4001 f_tokenName_23]) hP hD [0, 3, 4, 5] [1, 2] rfl rfl (by decide) (by decide) hk1 hFc hP1 hD1
              generalize H1 = H at hP hS ⊢
              have hP : va_P (dC, dI) cls_all [ic h_text k_text 4000 f_text, jc h_words k_words 26 f_words, oc h_this 8 fs_this_23, ic h_tokenKind k_tokenKind 4001 f_tokenKind_23, ic h_tokenStart k_tokenStart 4001 f_tokenStart_23, jc h_tokenName k_tokenName 4001 f_tokenName_23] H := hP
              have hD : va_D A [ic h_text k_text 4000 f_text, jc h_words k_words 26 f_words, oc h_this 8 fs_this_23, ic h_tokenKind k_tokenKind 4001 f_tokenKind_23, ic h_tokenStart k_tokenStart 4001 f_tokenStart_23, jc h_tokenName k_tokenName 4001 f_tokenName_23] := hD
              refine lv_iload_n hx hb d_Source_scanToken_102 rfl (lv_at hl 3 rfl) ?_
              refine lv_iconst (v := 1) hx hb d_Source_scanToken_103 (by decide) ?_
              refine lv_iadd hx hb d_Source_scanToken_104 ?_
              refine lv_topi (fun x24 e24 => ?_)
              obtain rfl : x24 = nI (a + 1) := e24.trans (nI_add a 1)
              have eR : sNext f_text tz a = a + 1 := by unfold sNext; rw [if_neg h32, if_neg hnr, if_neg hne]
              have eK : tokK f_text f_words tz a = 40 + ff (isC 3 (f_text a)) 0 22 := by unfold tokK; rw [if_neg hnr, if_neg hne, if_pos hsg]
              have eV : tokV f_text tz a = 0 := by unfold tokV; rw [if_neg hnr]
              have hP9 := hP.sub (ws' := [oc h_this 8 fs_this_23, ic h_text k_text 4000 f_text, jc h_words k_words 26 f_words, ic h_tokenKind k_tokenKind 4001 f_tokenKind_23, ic h_tokenStart k_tokenStart 4001 f_tokenStart_23, jc h_tokenName k_tokenName 4001 f_tokenName_23]) [2, 0, 1, 3, 4, 5] rfl
              have hD9 := hD.sub (ws' := [oc h_this 8 fs_this_23, ic h_text k_text 4000 f_text, jc h_words k_words 26 f_words, ic h_tokenKind k_tokenKind 4001 f_tokenKind_23, ic h_tokenStart k_tokenStart 4001 f_tokenStart_23, jc h_tokenName k_tokenName 4001 f_tokenName_23]) [2, 0, 1, 3, 4, 5] (by decide) rfl
              have hK9 := hK.sub (tys' := [(k_text, .char), (k_words, .long), (k_tokenKind, .int), (k_tokenStart, .int), (k_tokenName, .long)]) [0, 1, 2, 3, 4] rfl
              have hv25 : fs_this_23[14]? = some (.int (nI (tn + 1))) := hw23_2
              exact W.iret (v := (nI (a + 1))) hx hb hr (fun t ht hW => ⟨⟨(nI (a + 1)), (nI (a + 1)), rfl, rfl, fs_this_23, f_tokenKind_23, f_tokenStart_23, f_tokenName_23, ⟨(by first | exact hw23_0 | (simp only [List.length_set]; exact hw23_0)), (fun j n14 => ((hw23_1 j n14).trans rfl)), (by first | exact hv25 | (rw [hv25]; refine congrArg some (congrArg _ ?_); first | exact (if_pos h32).symm | exact (if_neg h32).symm | (rw [eR]; done) | (rw [eR]; assumption))), (by first | exact (if_pos h32).symm | (rw [if_neg h32, eK]; assumption) | (rw [if_neg h32, eV]; assumption) | (rw [if_neg h32]; assumption)), (by first | exact (if_pos h32).symm | (rw [if_neg h32, eK]; assumption) | (rw [if_neg h32, eV]; assumption) | (rw [if_neg h32]; assumption)), (by first | exact (if_pos h32).symm | (rw [if_neg h32, eK]; assumption) | (rw [if_neg h32, eV]; assumption) | (rw [if_neg h32]; assumption)), (by first | exact (if_pos h32).symm | exact (if_neg h32).symm | (rw [eR]; done) | (rw [eR]; assumption))⟩, by rw [ht]; exact hP9, va_K.moved hW.alike hK9, hD9⟩, hS.F ht⟩) hS.2.2 d_Source_scanToken_105
            · have hsg : ¬ 0 ≤ ff (isC 3 (f_text a)) 0 22 := c21
              refine lv_iconst (v := 1) hx hb d_Source_scanToken_89 (by decide) ?_
              refine lv_goto (tgt := 97) hx hb d_Source_scanToken_90 (by decide) ?_
              refine lv_iload_n hx hb d_Source_scanToken_97 rfl (lv_at hl 3 rfl) ?_
              refine lv_lconst (v := 0) hx hb d_Source_scanToken_98 (by decide) ?_
              have hPc := hP.sub (ws' := [oc h_this 8 fs_this, ic h_tokenKind k_tokenKind 4001 f_tokenKind, ic h_tokenStart k_tokenStart 4001 f_tokenStart, jc h_tokenName k_tokenName 4001 f_tokenName]) [0, 3, 4, 5] rfl
              have hKc := hK.sub (tys' := [(k_tokenKind, .int), (k_tokenStart, .int), (k_tokenName, .long)]) [2, 3, 4] rfl
              have hDc := hD.sub (ws' := [oc h_this 8 fs_this, ic h_tokenKind k_tokenKind 4001 f_tokenKind, ic h_tokenStart k_tokenStart 4001 f_tokenStart, jc h_tokenName k_tokenName 4001 f_tokenName]) [0, 3, 4, 5] (by decide) rfl
              have hFc := va_free (wc := [oc h_this 8 fs_this, ic h_tokenKind k_tokenKind 4001 f_tokenKind, ic h_tokenStart k_tokenStart 4001 f_tokenStart, jc h_tokenName k_tokenName 4001 f_tokenName]) hD hS hA [0, 3, 4, 5] rfl
              refine va_callv (va_runV (As := [.int 1, .int (nI a), .long 0]) (rest := []) ⟨hx, hb, hml, hown, hT⟩ (c_Source_addToken l dC dI (sz := s.heap.size) (h_this := h_this) (h_tokenKind := h_tokenKind) (h_tokenStart := h_tokenStart) (h_tokenName := h_tokenName) (fs_this := fs_this) (k_tokenKind := k_tokenKind) (f_tokenKind := f_tokenKind) (k_tokenStart := k_tokenStart) (f_tokenStart := f_tokenStart) (k_tokenName := k_tokenName) (f_tokenName := f_tokenName) (p1 := 1) (p2 := (nI a)) (p3 := 0) (tn := tn) (len_this := (by first | exact len_this | (simp only [List.length_set]; exact len_this))) (g_this_tokens := g_this_tokens) (g_this_tokenKind := g_this_tokenKind) (g_this_tokenStart := g_this_tokenStart) (g_this_tokenName := g_this_tokenName) (ht0 := ht0)) (cwV 3 hT (gV ml_Source_109 im_Source_addToken se_Source_addToken ini_Source co_Source_addToken) rfl rfl rfl (by decide +kernel) ⟨Nat.le_of_ble_eq_true rfl, Nat.le_of_ble_eq_true rfl⟩) ⟨fbQ, va_recv hKc hPc (ci := 8) (q0 := 0) rfl rfl, fun U hU hW => ⟨rfl, by rw [hU], by rw [hU]; exact hPc, va_K.moved hW.alike hKc, hDc.weaken (fun _ _ _ _ => trivial)⟩⟩ rfl rfl hl.1 rfl (lv_room (Nat.le_of_ble_eq_true rfl)) d_Source_scanToken_99 ⟨Nat.le_of_ble_eq_true rfl, Nat.le_of_ble_eq_true rfl⟩) hS (fun q _ h => hFc q h) hFc (fun u t H1 locs ht hvm hw hB hz1 hk1 hS => ?_)
              obtain ⟨fs_this_26, f_tokenKind_26, f_tokenStart_26, f_tokenName_26, ⟨hw26_0, hw26_1, hw26_2, hw26_3, hw26_4, hw26_5⟩, hP1, hK1, hD1⟩ := hB
              rw [ht] at hP1
              have hK1 := va_K.moved hvm.symm hK1
              obtain ⟨hP, hD⟩ := va_join (wr := [ic h_text k_text 4000 f_text, jc h_words k_words 26 f_words]) (w1 := [oc h_this 8 fs_this_26, ic h_tokenKind k_tokenKind 4001 f_tokenKind_26, ic h_tokenStart k_tokenStart 4001 f_tokenStart_26, jc h_tokenName k_tokenName 4001 f_tokenName_26]) hP hD [0, 3, 4, 5] [1, 2] rfl rfl (by decide) (by decide) hk1 hFc hP1 hD1
              generalize H1 = H at hP hS ⊢
              have hP : va_P (dC, dI) cls_all [ic h_text k_text 4000 f_text, jc h_words k_words 26 f_words, oc h_this 8 fs_this_26, ic h_tokenKind k_tokenKind 4001 f_tokenKind_26, ic h_tokenStart k_tokenStart 4001 f_tokenStart_26, jc h_tokenName k_tokenName 4001 f_tokenName_26] H := hP
              have hD : va_D A [ic h_text k_text 4000 f_text, jc h_words k_words 26 f_words, oc h_this 8 fs_this_26, ic h_tokenKind k_tokenKind 4001 f_tokenKind_26, ic h_tokenStart k_tokenStart 4001 f_tokenStart_26, jc h_tokenName k_tokenName 4001 f_tokenName_26] := hD
              refine lv_iload_n hx hb d_Source_scanToken_102 rfl (lv_at hl 3 rfl) ?_
              refine lv_iconst (v := 1) hx hb d_Source_scanToken_103 (by decide) ?_
              refine lv_iadd hx hb d_Source_scanToken_104 ?_
              refine lv_topi (fun x27 e27 => ?_)
              obtain rfl : x27 = nI (a + 1) := e27.trans (nI_add a 1)
              have eR : sNext f_text tz a = a + 1 := by unfold sNext; rw [if_neg h32, if_neg hnr, if_neg hne]
              have eK : tokK f_text f_words tz a = 1 := by unfold tokK; rw [if_neg hnr, if_neg hne, if_neg hsg]
              have eV : tokV f_text tz a = 0 := by unfold tokV; rw [if_neg hnr]
              have hP9 := hP.sub (ws' := [oc h_this 8 fs_this_26, ic h_text k_text 4000 f_text, jc h_words k_words 26 f_words, ic h_tokenKind k_tokenKind 4001 f_tokenKind_26, ic h_tokenStart k_tokenStart 4001 f_tokenStart_26, jc h_tokenName k_tokenName 4001 f_tokenName_26]) [2, 0, 1, 3, 4, 5] rfl
              have hD9 := hD.sub (ws' := [oc h_this 8 fs_this_26, ic h_text k_text 4000 f_text, jc h_words k_words 26 f_words, ic h_tokenKind k_tokenKind 4001 f_tokenKind_26, ic h_tokenStart k_tokenStart 4001 f_tokenStart_26, jc h_tokenName k_tokenName 4001 f_tokenName_26]) [2, 0, 1, 3, 4, 5] (by decide) rfl
              have hK9 := hK.sub (tys' := [(k_text, .char), (k_words, .long), (k_tokenKind, .int), (k_tokenStart, .int), (k_tokenName, .long)]) [0, 1, 2, 3, 4] rfl
              have hv28 : fs_this_26[14]? = some (.int (nI (tn + 1))) := hw26_2
              exact W.iret (v := (nI (a + 1))) hx hb hr (fun t ht hW => ⟨⟨(nI (a + 1)), (nI (a + 1)), rfl, rfl, fs_this_26, f_tokenKind_26, f_tokenStart_26, f_tokenName_26, ⟨(by first | exact hw26_0 | (simp only [List.length_set]; exact hw26_0)), (fun j n14 => ((hw26_1 j n14).trans rfl)), (by first | exact hv28 | (rw [hv28]; refine congrArg some (congrArg _ ?_); first | exact (if_pos h32).symm | exact (if_neg h32).symm | (rw [eR]; done) | (rw [eR]; assumption))), (by first | exact (if_pos h32).symm | (rw [if_neg h32, eK]; assumption) | (rw [if_neg h32, eV]; assumption) | (rw [if_neg h32]; assumption)), (by first | exact (if_pos h32).symm | (rw [if_neg h32, eK]; assumption) | (rw [if_neg h32, eV]; assumption) | (rw [if_neg h32]; assumption)), (by first | exact (if_pos h32).symm | (rw [if_neg h32, eK]; assumption) | (rw [if_neg h32, eV]; assumption) | (rw [if_neg h32]; assumption)), (by first | exact (if_pos h32).symm | exact (if_neg h32).symm | (rw [eR]; done) | (rw [eR]; assumption))⟩, by rw [ht]; exact hP9, va_K.moved hW.alike hK9, hD9⟩, hS.F ht⟩) hS.2.2 d_Source_scanToken_105
          · have b19 : ((a + 1)) < (tz) := (ni_le (by omega) (by omega)).2 c19
            refine lv_aload_n hx hb d_Source_scanToken_52 rfl (lv_at hl 1 rfl) ?_
            refine va_get (D := (dC, dI)) (ci := 8) (v := .ref h_text) (C := R_Source) (T := F_Source) (N := 16) hx hb hT i_Source hown hK hP 0 rfl rfl 9 (by decide) (hT _ fl_Source_73) (fun _ h9 => h9) g_this_text d_Source_scanToken_53 ?_
            refine lv_iload_n hx hb d_Source_scanToken_56 rfl (lv_at hl 2 rfl) ?_
            refine lv_iconst (v := 1) hx hb d_Source_scanToken_57 (by decide) ?_
            refine lv_iadd hx hb d_Source_scanToken_58 ?_
            refine lv_topi (fun x29 e29 => ?_)
            obtain rfl : x29 = nI (a + 1) := e29.trans (nI_add a 1)
            refine va_cald hx hb hK hP 1 0 rfl rfl (vp_in_nI (by omega) (by decide)) d_Source_scanToken_59 ?_
            refine lv_topi (fun x30 e30 => ?_)
            obtain rfl : x30 = f_text (a + 1) := e30.trans (congrArg f_text (nI_clamp (by omega)))
            refine lv_bipush (v := 61) hx hb d_Source_scanToken_60 (by decide) ?_
            refine lv_icmp_ne (tgt := 77) hx hb d_Source_scanToken_62 (by decide) (fun c31 => ?_) (fun c31 => ?_)
            · have hne : ¬ (f_text a = 61 ∧ a + 1 < tz ∧ f_text (a + 1) = 61) := fun z => by first | exact c31 z.1 | exact c31 z.2.2 | (have := z.2.1; omega)
              refine va_ldcS (own := R_Source) (index := 113) (q := ad 3) hx hb hown (henv.2.2 3 (by decide)).2 d_Source_scanToken_77 ?_
              refine lv_iload_n hx hb d_Source_scanToken_79 rfl (lv_at hl 0 rfl) ?_
              have hPc := hP.sub (ws' := []) [] rfl
              have hKc := hK.sub (tys' := []) [] rfl
              refine vp_callSi (va_Run.run (va_runV (As := [.int (f_text a)]) (rest := []) ⟨hx, hb, hml, hown, hT⟩ (c_Str_indexOf_l l dC dI (ad := ad) (av := av) (p1 := (f_text a)) (i := 3) (hi := (by decide)) (h0l := (by decide)) (hc := (hch a (by omega)))) (cwV 1 hT (gV ml_Source_115 im_Str_indexOf_I se_Str_indexOf_I ini_Str co_Str_indexOf_I) rfl rfl rfl (by decide +kernel) ⟨Nat.le_of_ble_eq_true rfl, Nat.le_of_ble_eq_true rfl⟩) ⟨fbSe, (env_recv henv (by decide) hS), fun U hU hW => ⟨rfl, by rw [hU]; exact hPc, va_K.moved hW.alike hKc, env0.hand henv hS hU hW (fun q h => h.elim)⟩⟩ rfl rfl hl.1 rfl (lv_room (Nat.le_of_ble_eq_true rfl)) d_Source_scanToken_80 ⟨Nat.le_of_ble_eq_true rfl, Nat.le_of_ble_eq_true rfl⟩)) (fun r32 hr32 => ?_)
              obtain rfl : r32 = ff (isC 3 (f_text a)) 0 22 := hr32
              refine lv_istore_n (lv' := [(3, .int (ff (isC 3 (f_text a)) 0 22)), (2, .int (f_text a)), (0, .ref h_this), (1, .int (nI a))]) hx hb d_Source_scanToken_83 rfl hl (by decide) rfl (fun ls hl => ?_)
              refine lv_aload_n hx hb d_Source_scanToken_84 rfl (lv_at hl 2 rfl) ?_
              refine lv_iload_n hx hb d_Source_scanToken_85 rfl (lv_at hl 0 rfl) ?_
              refine lv_if_ge (tgt := 93) hx hb d_Source_scanToken_86 (by decide) (fun c33 => ?_) (fun c33 => ?_)
              · have hsg : 0 ≤ ff (isC 3 (f_text a)) 0 22 := c33
                refine lv_bipush (v := 40) hx hb d_Source_scanToken_93 (by decide) ?_
                refine lv_iload_n hx hb d_Source_scanToken_95 rfl (lv_at hl 0 rfl) ?_
                refine lv_iadd hx hb d_Source_scanToken_96 ?_
                refine lv_topi (fun x34 e34 => ?_)
                obtain rfl : x34 = 40 + ff (isC 3 (f_text a)) 0 22 := e34
                refine lv_iload_n hx hb d_Source_scanToken_97 rfl (lv_at hl 3 rfl) ?_
                refine lv_lconst (v := 0) hx hb d_Source_scanToken_98 (by decide) ?_
                have hPc := hP.sub (ws' := [oc h_this 8 fs_this, ic h_tokenKind k_tokenKind 4001 f_tokenKind, ic h_tokenStart k_tokenStart 4001 f_tokenStart, jc h_tokenName k_tokenName 4001 f_tokenName]) [0, 3, 4, 5] rfl
                have hKc := hK.sub (tys' := [(k_tokenKind, .int), (k_tokenStart, .int), (k_tokenName, .long)]) [2, 3, 4] rfl
                have hDc := hD.sub (ws' := [oc h_this 8 fs_this, ic h_tokenKind k_tokenKind 4001 f_tokenKind, ic h_tokenStart k_tokenStart 4001 f_tokenStart, jc h_tokenName k_tokenName 4001 f_tokenName]) [0, 3, 4, 5] (by decide) rfl
                have hFc := va_free (wc := [oc h_this 8 fs_this, ic h_tokenKind k_tokenKind 4001 f_tokenKind, ic h_tokenStart k_tokenStart 4001 f_tokenStart, jc h_tokenName k_tokenName 4001 f_tokenName]) hD hS hA [0, 3, 4, 5] rfl
                refine va_callv (va_runV (As := [.int (40 + ff (isC 3 (f_text a)) 0 22), .int (nI a), .long 0]) (rest := []) ⟨hx, hb, hml, hown, hT⟩ (c_Source_addToken l dC dI (sz := s.heap.size) (h_this := h_this) (h_tokenKind := h_tokenKind) (h_tokenStart := h_tokenStart) (h_tokenName := h_tokenName) (fs_this := fs_this) (k_tokenKind := k_tokenKind) (f_tokenKind := f_tokenKind) (k_tokenStart := k_tokenStart) (f_tokenStart := f_tokenStart) (k_tokenName := k_tokenName) (f_tokenName := f_tokenName) (p1 := (40 + ff (isC 3 (f_text a)) 0 22)) (p2 := (nI a)) (p3 := 0) (tn := tn) (len_this := (by first | exact len_this | (simp only [List.length_set]; exact len_this))) (g_this_tokens := g_this_tokens) (g_this_tokenKind := g_this_tokenKind) (g_this_tokenStart := g_this_tokenStart) (g_this_tokenName := g_this_tokenName) (ht0 := ht0)) (cwV 3 hT (gV ml_Source_109 im_Source_addToken se_Source_addToken ini_Source co_Source_addToken) rfl rfl rfl (by decide +kernel) ⟨Nat.le_of_ble_eq_true rfl, Nat.le_of_ble_eq_true rfl⟩) ⟨fbQ, va_recv hKc hPc (ci := 8) (q0 := 0) rfl rfl, fun U hU hW => ⟨rfl, by rw [hU], by rw [hU]; exact hPc, va_K.moved hW.alike hKc, hDc.weaken (fun _ _ _ _ => trivial)⟩⟩ rfl rfl hl.1 rfl (lv_room (Nat.le_of_ble_eq_true rfl)) d_Source_scanToken_99 ⟨Nat.le_of_ble_eq_true rfl, Nat.le_of_ble_eq_true rfl⟩) hS (fun q _ h => hFc q h) hFc (fun u t H1 locs ht hvm hw hB hz1 hk1 hS => ?_)
                obtain ⟨fs_this_35, f_tokenKind_35, f_tokenStart_35, f_tokenName_35, ⟨hw35_0, hw35_1, hw35_2, hw35_3, hw35_4, hw35_5⟩, hP1, hK1, hD1⟩ := hB
                rw [ht] at hP1
                have hK1 := va_K.moved hvm.symm hK1
                obtain ⟨hP, hD⟩ := va_join (wr := [ic h_text k_text 4000 f_text, jc h_words k_words 26 f_words]) (w1 := [oc h_this 8 fs_this_35, ic h_tokenKind k_tokenKind 4001 f_tokenKind_35, ic h_tokenStart k_tokenStart 4001 f_tokenStart_35, jc h_tokenName k_tokenName 4001 f_tokenName_35]) hP hD [0, 3, 4, 5] [1, 2] rfl rfl (by decide) (by decide) hk1 hFc hP1 hD1
                generalize H1 = H at hP hS ⊢
                have hP : va_P (dC, dI) cls_all [ic h_text k_text 4000 f_text, jc h_words k_words 26 f_words, oc h_this 8 fs_this_35, ic h_tokenKind k_tokenKind 4001 f_tokenKind_35, ic h_tokenStart k_tokenStart 4001 f_tokenStart_35, jc h_tokenName k_tokenName 4001 f_tokenName_35] H := hP
                have hD : va_D A [ic h_text k_text 4000 f_text, jc h_words k_words 26 f_words, oc h_this 8 fs_this_35, ic h_tokenKind k_tokenKind 4001 f_tokenKind_35, ic h_tokenStart k_tokenStart 4001 f_tokenStart_35, jc h_tokenName k_tokenName 4001 f_tokenName_35] := hD
                refine lv_iload_n hx hb d_Source_scanToken_102 rfl (lv_at hl 3 rfl) ?_
                refine lv_iconst (v := 1) hx hb d_Source_scanToken_103 (by decide) ?_
                refine lv_iadd hx hb d_Source_scanToken_104 ?_
                refine lv_topi (fun x36 e36 => ?_)
                obtain rfl : x36 = nI (a + 1) := e36.trans (nI_add a 1)
                have eR : sNext f_text tz a = a + 1 := by unfold sNext; rw [if_neg h32, if_neg hnr, if_neg hne]
                have eK : tokK f_text f_words tz a = 40 + ff (isC 3 (f_text a)) 0 22 := by unfold tokK; rw [if_neg hnr, if_neg hne, if_pos hsg]
                have eV : tokV f_text tz a = 0 := by unfold tokV; rw [if_neg hnr]
                have hP9 := hP.sub (ws' := [oc h_this 8 fs_this_35, ic h_text k_text 4000 f_text, jc h_words k_words 26 f_words, ic h_tokenKind k_tokenKind 4001 f_tokenKind_35, ic h_tokenStart k_tokenStart 4001 f_tokenStart_35, jc h_tokenName k_tokenName 4001 f_tokenName_35]) [2, 0, 1, 3, 4, 5] rfl
                have hD9 := hD.sub (ws' := [oc h_this 8 fs_this_35, ic h_text k_text 4000 f_text, jc h_words k_words 26 f_words, ic h_tokenKind k_tokenKind 4001 f_tokenKind_35, ic h_tokenStart k_tokenStart 4001 f_tokenStart_35, jc h_tokenName k_tokenName 4001 f_tokenName_35]) [2, 0, 1, 3, 4, 5] (by decide) rfl
                have hK9 := hK.sub (tys' := [(k_text, .char), (k_words, .long), (k_tokenKind, .int), (k_tokenStart, .int), (k_tokenName, .long)]) [0, 1, 2, 3, 4] rfl
                have hv37 : fs_this_35[14]? = some (.int (nI (tn + 1))) := hw35_2
                exact W.iret (v := (nI (a + 1))) hx hb hr (fun t ht hW => ⟨⟨(nI (a + 1)), (nI (a + 1)), rfl, rfl, fs_this_35, f_tokenKind_35, f_tokenStart_35, f_tokenName_35, ⟨(by first | exact hw35_0 | (simp only [List.length_set]; exact hw35_0)), (fun j n14 => ((hw35_1 j n14).trans rfl)), (by first | exact hv37 | (rw [hv37]; refine congrArg some (congrArg _ ?_); first | exact (if_pos h32).symm | exact (if_neg h32).symm | (rw [eR]; done) | (rw [eR]; assumption))), (by first | exact (if_pos h32).symm | (rw [if_neg h32, eK]; assumption) | (rw [if_neg h32, eV]; assumption) | (rw [if_neg h32]; assumption)), (by first | exact (if_pos h32).symm | (rw [if_neg h32, eK]; assumption) | (rw [if_neg h32, eV]; assumption) | (rw [if_neg h32]; assumption)), (by first | exact (if_pos h32).symm | (rw [if_neg h32, eK]; assumption) | (rw [if_neg h32, eV]; assumption) | (rw [if_neg h32]; assumption)), (by first | exact (if_pos h32).symm | exact (if_neg h32).symm | (rw [eR]; done) | (rw [eR]; assumption))⟩, by rw [ht]; exact hP9, va_K.moved hW.alike hK9, hD9⟩, hS.F ht⟩) hS.2.2 d_Source_scanToken_105
              · have hsg : ¬ 0 ≤ ff (isC 3 (f_text a)) 0 22 := c33
                refine lv_iconst (v := 1) hx hb d_Source_scanToken_89 (by decide) ?_
                refine lv_goto (tgt := 97) hx hb d_Source_scanToken_90 (by decide) ?_
                refine lv_iload_n hx hb d_Source_scanToken_97 rfl (lv_at hl 3 rfl) ?_
                refine lv_lconst (v := 0) hx hb d_Source_scanToken_98 (by decide) ?_
                have hPc := hP.sub (ws' := [oc h_this 8 fs_this, ic h_tokenKind k_tokenKind 4001 f_tokenKind, ic h_tokenStart k_tokenStart 4001 f_tokenStart, jc h_tokenName k_tokenName 4001 f_tokenName]) [0, 3, 4, 5] rfl
                have hKc := hK.sub (tys' := [(k_tokenKind, .int), (k_tokenStart, .int), (k_tokenName, .long)]) [2, 3, 4] rfl
                have hDc := hD.sub (ws' := [oc h_this 8 fs_this, ic h_tokenKind k_tokenKind 4001 f_tokenKind, ic h_tokenStart k_tokenStart 4001 f_tokenStart, jc h_tokenName k_tokenName 4001 f_tokenName]) [0, 3, 4, 5] (by decide) rfl
                have hFc := va_free (wc := [oc h_this 8 fs_this, ic h_tokenKind k_tokenKind 4001 f_tokenKind, ic h_tokenStart k_tokenStart 4001 f_tokenStart, jc h_tokenName k_tokenName 4001 f_tokenName]) hD hS hA [0, 3, 4, 5] rfl
                refine va_callv (va_runV (As := [.int 1, .int (nI a), .long 0]) (rest := []) ⟨hx, hb, hml, hown, hT⟩ (c_Source_addToken l dC dI (sz := s.heap.size) (h_this := h_this) (h_tokenKind := h_tokenKind) (h_tokenStart := h_tokenStart) (h_tokenName := h_tokenName) (fs_this := fs_this) (k_tokenKind := k_tokenKind) (f_tokenKind := f_tokenKind) (k_tokenStart := k_tokenStart) (f_tokenStart := f_tokenStart) (k_tokenName := k_tokenName) (f_tokenName := f_tokenName) (p1 := 1) (p2 := (nI a)) (p3 := 0) (tn := tn) (len_this := (by first | exact len_this | (simp only [List.length_set]; exact len_this))) (g_this_tokens := g_this_tokens) (g_this_tokenKind := g_this_tokenKind) (g_this_tokenStart := g_this_tokenStart) (g_this_tokenName := g_this_tokenName) (ht0 := ht0)) (cwV 3 hT (gV ml_Source_109 im_Source_addToken se_Source_addToken ini_Source co_Source_addToken) rfl rfl rfl (by decide +kernel) ⟨Nat.le_of_ble_eq_true rfl, Nat.le_of_ble_eq_true rfl⟩) ⟨fbQ, va_recv hKc hPc (ci := 8) (q0 := 0) rfl rfl, fun U hU hW => ⟨rfl, by rw [hU], by rw [hU]; exact hPc, va_K.moved hW.alike hKc, hDc.weaken (fun _ _ _ _ => trivial)⟩⟩ rfl rfl hl.1 rfl (lv_room (Nat.le_of_ble_eq_true rfl)) d_Source_scanToken_99 ⟨Nat.le_of_ble_eq_true rfl, Nat.le_of_ble_eq_true rfl⟩) hS (fun q _ h => hFc q h) hFc (fun u t H1 locs ht hvm hw hB hz1 hk1 hS => ?_)
                obtain ⟨fs_this_38, f_tokenKind_38, f_tokenStart_38, f_tokenName_38, ⟨hw38_0, hw38_1, hw38_2, hw38_3, hw38_4, hw38_5⟩, hP1, hK1, hD1⟩ := hB
                rw [ht] at hP1
                have hK1 := va_K.moved hvm.symm hK1
                obtain ⟨hP, hD⟩ := va_join (wr := [ic h_text k_text 4000 f_text, jc h_words k_words 26 f_words]) (w1 := [oc h_this 8 fs_this_38, ic h_tokenKind k_tokenKind 4001 f_tokenKind_38, ic h_tokenStart k_tokenStart 4001 f_tokenStart_38, jc h_tokenName k_tokenName 4001 f_tokenName_38]) hP hD [0, 3, 4, 5] [1, 2] rfl rfl (by decide) (by decide) hk1 hFc hP1 hD1
                generalize H1 = H at hP hS ⊢
                have hP : va_P (dC, dI) cls_all [ic h_text k_text 4000 f_text, jc h_words k_words 26 f_words, oc h_this 8 fs_this_38, ic h_tokenKind k_tokenKind 4001 f_tokenKind_38, ic h_tokenStart k_tokenStart 4001 f_tokenStart_38, jc h_tokenName k_tokenName 4001 f_tokenName_38] H := hP
                have hD : va_D A [ic h_text k_text 4000 f_text, jc h_words k_words 26 f_words, oc h_this 8 fs_this_38, ic h_tokenKind k_tokenKind 4001 f_tokenKind_38, ic h_tokenStart k_tokenStart 4001 f_tokenStart_38, jc h_tokenName k_tokenName 4001 f_tokenName_38] := hD
                refine lv_iload_n hx hb d_Source_scanToken_102 rfl (lv_at hl 3 rfl) ?_
                refine lv_iconst (v := 1) hx hb d_Source_scanToken_103 (by decide) ?_
                refine lv_iadd hx hb d_Source_scanToken_104 ?_
                refine lv_topi (fun x39 e39 => ?_)
                obtain rfl : x39 = nI (a + 1) := e39.trans (nI_add a 1)
                have eR : sNext f_text tz a = a + 1 := by unfold sNext; rw [if_neg h32, if_neg hnr, if_neg hne]
                have eK : tokK f_text f_words tz a = 1 := by unfold tokK; rw [if_neg hnr, if_neg hne, if_neg hsg]
                have eV : tokV f_text tz a = 0 := by unfold tokV; rw [if_neg hnr]
                have hP9 := hP.sub (ws' := [oc h_this 8 fs_this_38, ic h_text k_text 4000 f_text, jc h_words k_words 26 f_words, ic h_tokenKind k_tokenKind 4001 f_tokenKind_38, ic h_tokenStart k_tokenStart 4001 f_tokenStart_38, jc h_tokenName k_tokenName 4001 f_tokenName_38]) [2, 0, 1, 3, 4, 5] rfl
                have hD9 := hD.sub (ws' := [oc h_this 8 fs_this_38, ic h_text k_text 4000 f_text, jc h_words k_words 26 f_words, ic h_tokenKind k_tokenKind 4001 f_tokenKind_38, ic h_tokenStart k_tokenStart 4001 f_tokenStart_38, jc h_tokenName k_tokenName 4001 f_tokenName_38]) [2, 0, 1, 3, 4, 5] (by decide) rfl
                have hK9 := hK.sub (tys' := [(k_text, .char), (k_words, .long), (k_tokenKind, .int), (k_tokenStart, .int), (k_tokenName, .long)]) [0, 1, 2, 3, 4] rfl
                have hv40 : fs_this_38[14]? = some (.int (nI (tn + 1))) := hw38_2
                exact W.iret (v := (nI (a + 1))) hx hb hr (fun t ht hW => ⟨⟨(nI (a + 1)), (nI (a + 1)), rfl, rfl, fs_this_38, f_tokenKind_38, f_tokenStart_38, f_tokenName_38, ⟨(by first | exact hw38_0 | (simp only [List.length_set]; exact hw38_0)), (fun j n14 => ((hw38_1 j n14).trans rfl)), (by first | exact hv40 | (rw [hv40]; refine congrArg some (congrArg _ ?_); first | exact (if_pos h32).symm | exact (if_neg h32).symm | (rw [eR]; done) | (rw [eR]; assumption))), (by first | exact (if_pos h32).symm | (rw [if_neg h32, eK]; assumption) | (rw [if_neg h32, eV]; assumption) | (rw [if_neg h32]; assumption)), (by first | exact (if_pos h32).symm | (rw [if_neg h32, eK]; assumption) | (rw [if_neg h32, eV]; assumption) | (rw [if_neg h32]; assumption)), (by first | exact (if_pos h32).symm | (rw [if_neg h32, eK]; assumption) | (rw [if_neg h32, eV]; assumption) | (rw [if_neg h32]; assumption)), (by first | exact (if_pos h32).symm | exact (if_neg h32).symm | (rw [eR]; done) | (rw [eR]; assumption))⟩, by rw [ht]; exact hP9, va_K.moved hW.alike hK9, hD9⟩, hS.F ht⟩) hS.2.2 d_Source_scanToken_105
            · have heq : f_text a = 61 ∧ a + 1 < tz ∧ f_text (a + 1) = 61 := ⟨c8, by omega, c31⟩
              refine lv_aload_n hx hb d_Source_scanToken_65 rfl (lv_at hl 1 rfl) ?_
              refine lv_bipush (v := 62) hx hb d_Source_scanToken_66 (by decide) ?_
              refine lv_iload_n hx hb d_Source_scanToken_68 rfl (lv_at hl 2 rfl) ?_
              refine lv_lconst (v := 0) hx hb d_Source_scanToken_69 (by decide) ?_
              have hPc := hP.sub (ws' := [oc h_this 8 fs_this, ic h_tokenKind k_tokenKind 4001 f_tokenKind, ic h_tokenStart k_tokenStart 4001 f_tokenStart, jc h_tokenName k_tokenName 4001 f_tokenName]) [0, 3, 4, 5] rfl
              have hKc := hK.sub (tys' := [(k_tokenKind, .int), (k_tokenStart, .int), (k_tokenName, .long)]) [2, 3, 4] rfl
              have hDc := hD.sub (ws' := [oc h_this 8 fs_this, ic h_tokenKind k_tokenKind 4001 f_tokenKind, ic h_tokenStart k_tokenStart 4001 f_tokenStart, jc h_tokenName k_tokenName 4001 f_tokenName]) [0, 3, 4, 5] (by decide) rfl
              have hFc := va_free (wc := [oc h_this 8 fs_this, ic h_tokenKind k_tokenKind 4001 f_tokenKind, ic h_tokenStart k_tokenStart 4001 f_tokenStart, jc h_tokenName k_tokenName 4001 f_tokenName]) hD hS hA [0, 3, 4, 5] rfl
              refine va_callv (va_runV (As := [.int 62, .int (nI a), .long 0]) (rest := []) ⟨hx, hb, hml, hown, hT⟩ (c_Source_addToken l dC dI (sz := s.heap.size) (h_this := h_this) (h_tokenKind := h_tokenKind) (h_tokenStart := h_tokenStart) (h_tokenName := h_tokenName) (fs_this := fs_this) (k_tokenKind := k_tokenKind) (f_tokenKind := f_tokenKind) (k_tokenStart := k_tokenStart) (f_tokenStart := f_tokenStart) (k_tokenName := k_tokenName) (f_tokenName := f_tokenName) (p1 := 62) (p2 := (nI a)) (p3 := 0) (tn := tn) (len_this := (by first | exact len_this | (simp only [List.length_set]; exact len_this))) (g_this_tokens := g_this_tokens) (g_this_tokenKind := g_this_tokenKind) (g_this_tokenStart := g_this_tokenStart) (g_this_tokenName := g_this_tokenName) (ht0 := ht0)) (cwV 3 hT (gV ml_Source_109 im_Source_addToken se_Source_addToken ini_Source co_Source_addToken) rfl rfl rfl (by decide +kernel) ⟨Nat.le_of_ble_eq_true rfl, Nat.le_of_ble_eq_true rfl⟩) ⟨fbQ, va_recv hKc hPc (ci := 8) (q0 := 0) rfl rfl, fun U hU hW => ⟨rfl, by rw [hU], by rw [hU]; exact hPc, va_K.moved hW.alike hKc, hDc.weaken (fun _ _ _ _ => trivial)⟩⟩ rfl rfl hl.1 rfl (lv_room (Nat.le_of_ble_eq_true rfl)) d_Source_scanToken_70 ⟨Nat.le_of_ble_eq_true rfl, Nat.le_of_ble_eq_true rfl⟩) hS (fun q _ h => hFc q h) hFc (fun u t H1 locs ht hvm hw hB hz1 hk1 hS => ?_)
              obtain ⟨fs_this_41, f_tokenKind_41, f_tokenStart_41, f_tokenName_41, ⟨hw41_0, hw41_1, hw41_2, hw41_3, hw41_4, hw41_5⟩, hP1, hK1, hD1⟩ := hB
              rw [ht] at hP1
              have hK1 := va_K.moved hvm.symm hK1
              obtain ⟨hP, hD⟩ := va_join (wr := [ic h_text k_text 4000 f_text, jc h_words k_words 26 f_words]) (w1 := [oc h_this 8 fs_this_41, ic h_tokenKind k_tokenKind 4001 f_tokenKind_41, ic h_tokenStart k_tokenStart 4001 f_tokenStart_41, jc h_tokenName k_tokenName 4001 f_tokenName_41]) hP hD [0, 3, 4, 5] [1, 2] rfl rfl (by decide) (by decide) hk1 hFc hP1 hD1
              generalize H1 = H at hP hS ⊢
              have hP : va_P (dC, dI) cls_all [ic h_text k_text 4000 f_text, jc h_words k_words 26 f_words, oc h_this 8 fs_this_41, ic h_tokenKind k_tokenKind 4001 f_tokenKind_41, ic h_tokenStart k_tokenStart 4001 f_tokenStart_41, jc h_tokenName k_tokenName 4001 f_tokenName_41] H := hP
              have hD : va_D A [ic h_text k_text 4000 f_text, jc h_words k_words 26 f_words, oc h_this 8 fs_this_41, ic h_tokenKind k_tokenKind 4001 f_tokenKind_41, ic h_tokenStart k_tokenStart 4001 f_tokenStart_41, jc h_tokenName k_tokenName 4001 f_tokenName_41] := hD
              refine lv_iload_n hx hb d_Source_scanToken_73 rfl (lv_at hl 2 rfl) ?_
              refine lv_iconst (v := 2) hx hb d_Source_scanToken_74 (by decide) ?_
              refine lv_iadd hx hb d_Source_scanToken_75 ?_
              refine lv_topi (fun x42 e42 => ?_)
              obtain rfl : x42 = nI (a + 2) := e42.trans (nI_add a 2)
              have eR : sNext f_text tz a = a + 2 := by unfold sNext; rw [if_neg h32, if_neg hnr, if_pos heq]
              have eK : tokK f_text f_words tz a = 62 := by unfold tokK; rw [if_neg hnr, if_pos heq]
              have eV : tokV f_text tz a = 0 := by unfold tokV; rw [if_neg hnr]
              have hP9 := hP.sub (ws' := [oc h_this 8 fs_this_41, ic h_text k_text 4000 f_text, jc h_words k_words 26 f_words, ic h_tokenKind k_tokenKind 4001 f_tokenKind_41, ic h_tokenStart k_tokenStart 4001 f_tokenStart_41, jc h_tokenName k_tokenName 4001 f_tokenName_41]) [2, 0, 1, 3, 4, 5] rfl
              have hD9 := hD.sub (ws' := [oc h_this 8 fs_this_41, ic h_text k_text 4000 f_text, jc h_words k_words 26 f_words, ic h_tokenKind k_tokenKind 4001 f_tokenKind_41, ic h_tokenStart k_tokenStart 4001 f_tokenStart_41, jc h_tokenName k_tokenName 4001 f_tokenName_41]) [2, 0, 1, 3, 4, 5] (by decide) rfl
              have hK9 := hK.sub (tys' := [(k_text, .char), (k_words, .long), (k_tokenKind, .int), (k_tokenStart, .int), (k_tokenName, .long)]) [0, 1, 2, 3, 4] rfl
              have hv43 : fs_this_41[14]? = some (.int (nI (tn + 1))) := hw41_2
              exact W.iret (v := (nI (a + 2))) hx hb hr (fun t ht hW => ⟨⟨(nI (a + 2)), (nI (a + 2)), rfl, rfl, fs_this_41, f_tokenKind_41, f_tokenStart_41, f_tokenName_41, ⟨(by first | exact hw41_0 | (simp only [List.length_set]; exact hw41_0)), (fun j n14 => ((hw41_1 j n14).trans rfl)), (by first | exact hv43 | (rw [hv43]; refine congrArg some (congrArg _ ?_); first | exact (if_pos h32).symm | exact (if_neg h32).symm | (rw [eR]; done) | (rw [eR]; assumption))), (by first | exact (if_pos h32).symm | (rw [if_neg h32, eK]; assumption) | (rw [if_neg h32, eV]; assumption) | (rw [if_neg h32]; assumption)), (by first | exact (if_pos h32).symm | (rw [if_neg h32, eK]; assumption) | (rw [if_neg h32, eV]; assumption) | (rw [if_neg h32]; assumption)), (by first | exact (if_pos h32).symm | (rw [if_neg h32, eK]; assumption) | (rw [if_neg h32, eV]; assumption) | (rw [if_neg h32]; assumption)), (by first | exact (if_pos h32).symm | exact (if_neg h32).symm | (rw [eR]; done) | (rw [eR]; assumption))⟩, by rw [ht]; exact hP9, va_K.moved hW.alike hK9, hD9⟩, hS.F ht⟩) hS.2.2 d_Source_scanToken_76
      · have hrow : f_text a = 39 ∨ cL (f_text a) := Or.inr (cL_of (yz hr6 c7))
        refine lv_aload_n hx hb d_Source_scanToken_30 rfl (lv_at hl 1 rfl) ?_
        refine lv_iload_n hx hb d_Source_scanToken_31 rfl (lv_at hl 2 rfl) ?_
        have hPc := hP.sub (ws' := [oc h_this 8 fs_this, ic h_text k_text 4000 f_text, jc h_words k_words 26 f_words, ic h_tokenKind k_tokenKind 4001 f_tokenKind, ic h_tokenStart k_tokenStart 4001 f_tokenStart, jc h_tokenName k_tokenName 4001 f_tokenName]) [0, 1, 2, 3, 4, 5] rfl
        have hKc := hK.sub (tys' := [(k_text, .char), (k_words, .long), (k_tokenKind, .int), (k_tokenStart, .int), (k_tokenName, .long)]) [0, 1, 2, 3, 4] rfl
        have hDc := hD.sub (ws' := [oc h_this 8 fs_this, ic h_text k_text 4000 f_text, jc h_words k_words 26 f_words, ic h_tokenKind k_tokenKind 4001 f_tokenKind, ic h_tokenStart k_tokenStart 4001 f_tokenStart, jc h_tokenName k_tokenName 4001 f_tokenName]) [0, 1, 2, 3, 4, 5] (by decide) rfl
        have hFc := va_free (wc := [oc h_this 8 fs_this, ic h_text k_text 4000 f_text, jc h_words k_words 26 f_words, ic h_tokenKind k_tokenKind 4001 f_tokenKind, ic h_tokenStart k_tokenStart 4001 f_tokenStart, jc h_tokenName k_tokenName 4001 f_tokenName]) hD hS hA [0, 1, 2, 3, 4, 5] rfl
        refine va_calli (va_runV (As := [.int (nI a)]) (rest := []) ⟨hx, hb, hml, hown, hT⟩ (c_Source_scanRow l dC dI (sz := s.heap.size) (h_this := h_this) (h_text := h_text) (h_words := h_words) (h_tokenKind := h_tokenKind) (h_tokenStart := h_tokenStart) (h_tokenName := h_tokenName) (fs_this := fs_this) (k_text := k_text) (f_text := f_text) (k_words := k_words) (f_words := f_words) (k_tokenKind := k_tokenKind) (f_tokenKind := f_tokenKind) (k_tokenStart := k_tokenStart) (f_tokenStart := f_tokenStart) (k_tokenName := k_tokenName) (f_tokenName := f_tokenName) (a := a) (tz := tz) (tn := tn) (len_this := (by first | exact len_this | (simp only [List.length_set]; exact len_this))) (g_this_text := g_this_text) (g_this_words := g_this_words) (g_this_length := g_this_length) (g_this_tokens := g_this_tokens) (g_this_tokenKind := g_this_tokenKind) (g_this_tokenStart := g_this_tokenStart) (g_this_tokenName := g_this_tokenName) (ha := ha) (hz := hz) (ht0 := ht0)) (cwV 1 hT (gV ml_Source_106 im_Source_scanRow se_Source_scanRow ini_Source co_Source_scanRow) rfl rfl rfl (by decide +kernel) ⟨Nat.le_of_ble_eq_true rfl, Nat.le_of_ble_eq_true rfl⟩) ⟨fbQ, va_recv hKc hPc (ci := 8) (q0 := 0) rfl rfl, fun U hU hW => ⟨rfl, by rw [hU], by rw [hU]; exact hPc, va_K.moved hW.alike hKc, hDc.weaken (fun _ _ _ _ => trivial)⟩⟩ rfl rfl hl.1 rfl (lv_room (Nat.le_of_ble_eq_true rfl)) d_Source_scanToken_32 ⟨Nat.le_of_ble_eq_true rfl, Nat.le_of_ble_eq_true rfl⟩) hS (fun q _ h => hFc q h) hFc (fun r44 u t H1 locs ht hvm hw hB hz1 hk1 hS => ?_)
        subst hw
        obtain ⟨fs_this_44, f_tokenKind_44, f_tokenStart_44, f_tokenName_44, ⟨hw44_0, hw44_1, hw44_2, hw44_3, hw44_4, hw44_5, hw44_6⟩, hP1, hK1, hD1⟩ := hB
        rw [ht] at hP1
        have hK1 := va_K.moved hvm.symm hK1
        obtain ⟨hP, hD⟩ := va_join (wr := []) (w1 := [oc h_this 8 fs_this_44, ic h_text k_text 4000 f_text, jc h_words k_words 26 f_words, ic h_tokenKind k_tokenKind 4001 f_tokenKind_44, ic h_tokenStart k_tokenStart 4001 f_tokenStart_44, jc h_tokenName k_tokenName 4001 f_tokenName_44]) hP hD [0, 1, 2, 3, 4, 5] [] rfl rfl (by decide) (by decide) hk1 hFc hP1 hD1
        generalize H1 = H at hP hS ⊢
        have hP : va_P (dC, dI) cls_all [oc h_this 8 fs_this_44, ic h_text k_text 4000 f_text, jc h_words k_words 26 f_words, ic h_tokenKind k_tokenKind 4001 f_tokenKind_44, ic h_tokenStart k_tokenStart 4001 f_tokenStart_44, jc h_tokenName k_tokenName 4001 f_tokenName_44] H := hP
        have hD : va_D A [oc h_this 8 fs_this_44, ic h_text k_text 4000 f_text, jc h_words k_words 26 f_words, ic h_tokenKind k_tokenKind 4001 f_tokenKind_44, ic h_tokenStart k_tokenStart 4001 f_tokenStart_44, jc h_tokenName k_tokenName 4001 f_tokenName_44] := hD
        have eR : sNext f_text tz a = a + 1 + sN f_text tz a := by unfold sNext; rw [if_neg h32, if_pos hrow]
        have eK : tokK f_text f_words tz a = sK f_text f_words tz a := by unfold tokK; rw [if_pos hrow]
        have eV : tokV f_text tz a = sV f_text tz a := by unfold tokV; rw [if_pos hrow]
        have hP9 := hP.sub (ws' := [oc h_this 8 fs_this_44, ic h_text k_text 4000 f_text, jc h_words k_words 26 f_words, ic h_tokenKind k_tokenKind 4001 f_tokenKind_44, ic h_tokenStart k_tokenStart 4001 f_tokenStart_44, jc h_tokenName k_tokenName 4001 f_tokenName_44]) [0, 1, 2, 3, 4, 5] rfl
        have hD9 := hD.sub (ws' := [oc h_this 8 fs_this_44, ic h_text k_text 4000 f_text, jc h_words k_words 26 f_words, ic h_tokenKind k_tokenKind 4001 f_tokenKind_44, ic h_tokenStart k_tokenStart 4001 f_tokenStart_44, jc h_tokenName k_tokenName 4001 f_tokenName_44]) [0, 1, 2, 3, 4, 5] (by decide) rfl
        have hK9 := hK.sub (tys' := [(k_text, .char), (k_words, .long), (k_tokenKind, .int), (k_tokenStart, .int), (k_tokenName, .long)]) [0, 1, 2, 3, 4] rfl
        have hv45 : fs_this_44[14]? = some (.int (nI (tn + 1))) := hw44_2
        exact W.iret (v := r44) hx hb hr (fun t ht hW => ⟨⟨r44, r44, rfl, rfl, fs_this_44, f_tokenKind_44, f_tokenStart_44, f_tokenName_44, ⟨(by first | exact hw44_0 | (simp only [List.length_set]; exact hw44_0)), (fun j n14 => ((hw44_1 j n14).trans rfl)), (by first | exact hv45 | (rw [hv45]; refine congrArg some (congrArg _ ?_); first | exact (if_pos h32).symm | exact (if_neg h32).symm | (rw [eR]; done) | (rw [eR]; assumption))), (by first | exact (if_pos h32).symm | (rw [if_neg h32, eK]; assumption) | (rw [if_neg h32, eV]; assumption) | (rw [if_neg h32]; assumption)), (by first | exact (if_pos h32).symm | (rw [if_neg h32, eK]; assumption) | (rw [if_neg h32, eV]; assumption) | (rw [if_neg h32]; assumption)), (by first | exact (if_pos h32).symm | (rw [if_neg h32, eK]; assumption) | (rw [if_neg h32, eV]; assumption) | (rw [if_neg h32]; assumption)), (by first | exact (if_pos h32).symm | exact (if_neg h32).symm | (rw [eR]; done) | (rw [eR]; assumption))⟩, by rw [ht]; exact hP9, va_K.moved hW.alike hK9, hD9⟩, hS.F ht⟩) hS.2.2 d_Source_scanToken_35
  · have h32 : f_text a = 32 := c2
    refine lv_iload_n hx hb d_Source_scanToken_13 rfl (lv_at hl 2 rfl) ?_
    refine lv_iconst (v := 1) hx hb d_Source_scanToken_14 (by decide) ?_
    refine lv_iadd hx hb d_Source_scanToken_15 ?_
    refine lv_topi (fun x46 e46 => ?_)
    obtain rfl : x46 = nI (a + 1) := e46.trans (nI_add a 1)
    have eR : sNext f_text tz a = a + 1 := by unfold sNext; rw [if_pos h32]
    have hP9 := hP.sub (ws' := [oc h_this 8 fs_this, ic h_text k_text 4000 f_text, jc h_words k_words 26 f_words, ic h_tokenKind k_tokenKind 4001 f_tokenKind, ic h_tokenStart k_tokenStart 4001 f_tokenStart, jc h_tokenName k_tokenName 4001 f_tokenName]) [0, 1, 2, 3, 4, 5] rfl
    have hD9 := hD.sub (ws' := [oc h_this 8 fs_this, ic h_text k_text 4000 f_text, jc h_words k_words 26 f_words, ic h_tokenKind k_tokenKind 4001 f_tokenKind, ic h_tokenStart k_tokenStart 4001 f_tokenStart, jc h_tokenName k_tokenName 4001 f_tokenName]) [0, 1, 2, 3, 4, 5] (by decide) rfl
    have hK9 := hK.sub (tys' := [(k_text, .char), (k_words, .long), (k_tokenKind, .int), (k_tokenStart, .int), (k_tokenName, .long)]) [0, 1, 2, 3, 4] rfl
    have hv47 : fs_this[14]? = some (.int (nI tn)) := g_this_tokens
    exact W.iret (v := (nI (a + 1))) hx hb hr (fun t ht hW => ⟨⟨(nI (a + 1)), (nI (a + 1)), rfl, rfl, fs_this, f_tokenKind, f_tokenStart, f_tokenName, ⟨(by first | exact len_this | (simp only [List.length_set]; exact len_this)), (fun j n14 => rfl), (by first | exact hv47 | (rw [hv47]; refine congrArg some (congrArg _ ?_); first | exact (if_pos h32).symm | exact (if_neg h32).symm | (rw [eR]; done) | (rw [eR]; assumption))), (by first | exact (if_pos h32).symm | (rw [if_neg h32, eK]; assumption) | (rw [if_neg h32, eV]; assumption) | (rw [if_neg h32]; assumption)), (by first | exact (if_pos h32).symm | (rw [if_neg h32, eK]; assumption) | (rw [if_neg h32, eV]; assumption) | (rw [if_neg h32]; assumption)), (by first | exact (if_pos h32).symm | (rw [if_neg h32, eK]; assumption) | (rw [if_neg h32, eV]; assumption) | (rw [if_neg h32]; assumption)), (by first | exact (if_pos h32).symm | exact (if_neg h32).symm | (rw [eR]; done) | (rw [eR]; assumption))⟩, by rw [ht]; exact hP9, va_K.moved hW.alike hK9, hD9⟩, hS.F ht⟩) hS.2.2 d_Source_scanToken_16
