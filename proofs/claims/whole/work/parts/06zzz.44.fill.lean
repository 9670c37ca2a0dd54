abbrev b_Arr_fill : ByteArray := prog_22_method_103_code
abbrev y_Arr_fill : MethodName := ⟨R_Arr, "fill", "([II)V"⟩
theorem co_Arr_fill : Cond.code y_Arr_fill b_Arr_fill 4 none ∈ lw_good := lg_in (tin_4 _ (List.mem_of_getElem? (i := 41) rfl)) rfl
abbrev w_Arr_fill : List Cond := Cond.code y_Arr_fill b_Arr_fill 4 none :: lw_good
theorem st_Arr_fill : Cond.static y_Arr_fill ∈ lw_good := lg_right (i := 760) (by decide +kernel) rfl
theorem d_Arr_fill_0 : decode b_Arr_fill 0 = .ok (.iconst 0, 1) := by decide +kernel
theorem d_Arr_fill_1 : decode b_Arr_fill 1 = .ok (.istore_n 2, 1) := by decide +kernel
theorem d_Arr_fill_2 : decode b_Arr_fill 2 = .ok (.aload_n 0, 1) := by decide +kernel
theorem d_Arr_fill_3 : decode b_Arr_fill 3 = .ok (.arraylength, 1) := by decide +kernel
theorem d_Arr_fill_4 : decode b_Arr_fill 4 = .ok (.istore_n 3, 1) := by decide +kernel
theorem d_Arr_fill_5 : decode b_Arr_fill 5 = .ok (.iload_n 2, 1) := by decide +kernel
theorem d_Arr_fill_6 : decode b_Arr_fill 6 = .ok (.iload_n 3, 1) := by decide +kernel
theorem d_Arr_fill_7 : decode b_Arr_fill 7 = .ok (.if_icmp .ge 13, 3) := by decide +kernel
theorem d_Arr_fill_10 : decode b_Arr_fill 10 = .ok (.aload_n 0, 1) := by decide +kernel
theorem d_Arr_fill_11 : decode b_Arr_fill 11 = .ok (.iload_n 2, 1) := by decide +kernel
theorem d_Arr_fill_12 : decode b_Arr_fill 12 = .ok (.iload_n 1, 1) := by decide +kernel
theorem d_Arr_fill_13 : decode b_Arr_fill 13 = .ok (.iastore, 1) := by decide +kernel
theorem d_Arr_fill_14 : decode b_Arr_fill 14 = .ok (.iinc 2 1, 3) := by decide +kernel
theorem d_Arr_fill_17 : decode b_Arr_fill 17 = .ok (.goto (-12), 3) := by decide +kernel
theorem d_Arr_fill_20 : decode b_Arr_fill 20 = .ok (.return_, 1) := by decide +kernel
theorem fillF_upd {f : Nat → Int32} {v : Int32} {k : Nat} : upd (fillF f v k) k v = fillF f v (k + 1) := by
  funext j
  unfold upd fillF
  by_cases h : j = k
  · subst h
    rw [if_pos rfl, if_pos (Nat.lt_succ_self j)]
  · by_cases h2 : j < k
    · rw [if_neg h, if_pos h2, if_pos (by omega)]
    · rw [if_neg h, if_neg h2, if_neg (by omega)]
set_option maxHeartbeats 1000000 in
set_option maxRecDepth 100000 in
theorem c_Arr_fill (l : Launch) (dC : Nat → ClassId) (dI : Nat → Nat → Nat) (sz : Nat) (h_a1 : Nat) (k_a1 : ClassId) (f_a1 : Nat → Int32) (p2 : Int32) (L : Nat) (hL : L < 2 ^ 31) : Met l y_Arr_fill w_Arr_fill ({ frames := 0, cells := 0, slots := 0, locals := 0 } : Room) (va_Pc [.ref h_a1, .int p2] (fun U => U.heap.size = sz ∧ va_P (dC, dI) cls_all [ic h_a1 k_a1 L f_a1] U.heap ∧ va_K (dC, dI) cls_all [(k_a1, .int)] U ∧ va_D (fun _ => True) [ic h_a1 k_a1 L f_a1])) (va_Qv (fun (_ : Unit) => True) (fun _ t => ∃ (f_a1' : Nat → Int32), ((f_a1' = fillF f_a1 p2 L)) ∧ va_P (dC, dI) cls_all [ic h_a1 k_a1 L f_a1'] t.heap ∧ va_K (dC, dI) cls_all [(k_a1, .int)] t ∧ va_D (va_A [ic h_a1 k_a1 L f_a1] sz) [ic h_a1 k_a1 L f_a1']) (va_A [ic h_a1 k_a1 L f_a1] sz)) 0 0 (va_A [ic h_a1 k_a1 L f_a1] sz) := by
  refine Met.ofW (cc := b_Arr_fill) (maxL := 4) (ret := none) (by decide) rfl ?_
  intro p e s m args below meth c s₁ B hml hv
  obtain ⟨rfl, hsz, hP, hK, hD0⟩ := hv
  have hx := B.exec
  have hb := B.bytes
  have hr := B.returns
  have hT : ∀ w ∈ lw_good, w.before _ s = true := fun w h => atoms_spec (ws := w_Arr_fill) B.pre w (List.mem_cons_of_mem _ h)
  have hown : s.vm.findClass R_Arr = some m.cls := findClass_of_methodNamed B.named
  have hlocks := B.notSynchronized
  subst hsz
  have hD := hD0.self (sz := s.heap.size)
  generalize hAe : va_A [ic h_a1 k_a1 L f_a1] s.heap.size = A at hD ⊢
  have hA : ∀ q : Nat, s.heap.size ≤ q → A q := fun q h => by rw [← hAe]; exact Or.inr h
  have hS : va_S A s.heap s.heap [] := va_S.rf
  have hP : va_P (dC, dI) cls_all [ic h_a1 k_a1 L f_a1] s.heap := hP
  have hl := lv_entry ([.ref h_a1, .int p2]) (n := 4) (Nat.le_of_ble_eq_true rfl)
  rw [lg_entry_eq]
  generalize (lg_sl ([.ref h_a1, .int p2]) ++ List.replicate (4 - (lg_sl ([.ref h_a1, .int p2])).length) Slot.unset).toArray = ls at hl ⊢
  have hl : lv_has ls 4 [(0, .ref h_a1), (1, .int p2)] := hl
  refine lv_iconst (v := 0) hx hb d_Arr_fill_0 (by decide) ?_
  refine lv_istore_n (lv' := [(2, .int 0), (0, .ref h_a1), (1, .int p2)]) hx hb d_Arr_fill_1 rfl hl (by decide) rfl (fun ls hl => ?_)
  refine lv_aload_n hx hb d_Arr_fill_2 rfl (lv_at hl 1 rfl) ?_
  refine va_alen (v := (nI L)) hx hb hK hP 0 0 rfl rfl rfl d_Arr_fill_3 ?_
  refine lv_istore_n (lv' := [(3, .int (nI L)), (2, .int 0), (0, .ref h_a1), (1, .int p2)]) hx hb d_Arr_fill_4 rfl hl (by decide) rfl (fun ls hl => ?_)
  have loop : ∀ (nn : Nat) (k : Nat), k ≤ L → L - k < nn → ∀ (H : Heap) (locs : List Loc), va_P (dC, dI) cls_all [ic h_a1 k_a1 L (fillF f_a1 p2 k)] H → va_D A [ic h_a1 k_a1 L (fillF f_a1 p2 k)] → va_S A s.heap H locs → ∀ (ls : Array Slot), lv_has ls 4 [(3, .int (nI L)), (2, .int (nI (k))), (0, .ref h_a1), (1, .int p2)] → W p l e (headSpec w_Arr_fill ({ frames := 0, cells := 0, slots := 0, locals := 0 } : Room)).room s m ([.ref h_a1, .int p2] : List Value).toArray below meth c H locs 0 0 (MQ below (va_Qv (fun (_ : Unit) => True) (fun _ t => ∃ (f_a1' : Nat → Int32), ((f_a1' = fillF f_a1 p2 L)) ∧ va_P (dC, dI) cls_all [ic h_a1 k_a1 L f_a1'] t.heap ∧ va_K (dC, dI) cls_all [(k_a1, .int)] t ∧ va_D A [ic h_a1 k_a1 L f_a1']) A) ([.ref h_a1, .int p2] : List Value).toArray s 0 0 A) (F0 m 5 ls []) := by
    clear hP hD hS
    clear hl
    intro nn
    induction nn with
    | zero => intro k hk hn H locs hP hD hS ls hl; exfalso; omega
    | succ nn ih =>
      intro k hk hn H locs hP hD hS ls hl
      refine lv_iload_n hx hb d_Arr_fill_5 rfl (lv_at hl 1 rfl) ?_
      refine lv_iload_n hx hb d_Arr_fill_6 rfl (lv_at hl 0 rfl) ?_
      refine lv_icmp_ge (tgt := 20) hx hb d_Arr_fill_7 (by decide) (fun c1 => ?_) (fun c1 => ?_)
      · have b1 : (L) ≤ ((k)) := (ni_le (by omega) (by omega)).1 c1
        have hP9 := hP.sub (ws' := [ic h_a1 k_a1 L (fillF f_a1 p2 k)]) [0] rfl
        have hD9 := hD.sub (ws' := [ic h_a1 k_a1 L (fillF f_a1 p2 k)]) [0] (by decide) rfl
        have hK9 := hK.sub (tys' := [(k_a1, .int)]) [0] rfl
        exact W.vret hx hb hr (fun t ht hW => ⟨⟨(), rfl, trivial, (fillF f_a1 p2 k), (by exact congrArg _ (by omega)), by rw [ht]; exact hP9, va_K.moved hW.alike hK9, hD9⟩, hS.F ht⟩) hS.2.2 d_Arr_fill_20
      · have b1 : ((k)) < (L) := (ni_le (by omega) (by omega)).2 c1
        refine lv_aload_n hx hb d_Arr_fill_10 rfl (lv_at hl 2 rfl) ?_
        refine lv_iload_n hx hb d_Arr_fill_11 rfl (lv_at hl 1 rfl) ?_
        refine lv_iload_n hx hb d_Arr_fill_12 rfl (lv_at hl 3 rfl) ?_
        refine va_iast hx hb hK hP hD hS 0 0 rfl rfl (vp_in_nI (by omega) hL) d_Arr_fill_13 (fun H locs hP hD hS => ?_)
        have es2 : upd (fillF f_a1 p2 k) (nI (k)).toNatClampNeg p2 = fillF f_a1 p2 (k + 1) := by rw [nI_clamp (by omega)]; exact fillF_upd
        have hP : va_P (dC, dI) cls_all [ic h_a1 k_a1 L (upd (fillF f_a1 p2 k) (nI (k)).toNatClampNeg p2)] H := hP
        have hD : va_D A [ic h_a1 k_a1 L (upd (fillF f_a1 p2 k) (nI (k)).toNatClampNeg p2)] := hD
        rw [es2] at hP hD
        obtain ⟨f2, ef2⟩ : ∃ g, g = fillF f_a1 p2 (k + 1) := ⟨_, rfl⟩
        rw [← ef2] at hP hD
        refine lv_iinc (v := (nI (k + 1))) (lv' := [(2, .int (nI (k + 1))), (3, .int (nI L)), (0, .ref h_a1), (1, .int p2)]) hx hb d_Arr_fill_14 hl (k := 1) rfl (nI_add (k) 1) (by decide) rfl (fun ls hl => ?_)
        refine lv_goto (tgt := 5) hx hb d_Arr_fill_17 (by decide) ?_
        subst ef2
        exact ih (k + 1) (by omega) (by omega) _ _ hP hD hS ls (lv_sub hl [1, 0, 2, 3] rfl)
  exact loop (L + 1) 0 (by omega) (by omega) _ _ hP hD hS ls (lv_sub hl [0, 1, 2, 3] rfl)

