abbrev oc (a ci : Nat) (fs : List Value) : Nat × va_E := (a, .inr (ci, fs))
abbrev ic (a : Nat) (k : ClassId) (n : Nat) (f : Nat → Int32) : Nat × va_E := (a, .inl (k, n, .inl f))
abbrev jc (a : Nat) (k : ClassId) (n : Nat) (f : Nat → Int64) : Nat × va_E := (a, .inl (k, n, .inr (.inl f)))
theorem ls_ne {fs : List Value} {i j : Nat} {v : Value} (h : j ≠ i) : (fs.set i v)[j]? = fs[j]? := List.getElem?_set_ne (Ne.symm h)
theorem ls_eq {fs : List Value} {i : Nat} {v : Value} (h : i < fs.length) : (fs.set i v)[i]? = some v := List.getElem?_set_self h
theorem fv_lt {N : Nat} {ty : Nat → FieldType} {fs : List Value} (h : (List.range N).all (fun j => decide (defaultValue (ty j) = vp_V fs j)) = true) : ∀ j, j < N → defaultValue (ty j) = vp_V fs j := fun j hj => of_decide_eq_true (List.all_eq_true.mp h j (List.mem_range.mpr hj))
theorem good_T : GoodIn lw_good lw_good := fun w hw => ⟨hw, good_of_word (List.mem_filter.mp hw).2⟩
theorem good_c {c : Cond} (h : c ∈ lw_good) : GoodIn lw_good (c :: lw_good) := fun w hw => (List.mem_cons.mp hw).elim (fun e => e ▸ good_T _ h) (good_T w)
theorem gV {own C : String} {idx : Nat} {y : MethodName} {c : Cond} (h1 : Cond.methodLink own idx y ∈ lw_good) (h2 : Cond.instanceMethod y ∈ lw_good) (h3 : Cond.selects C y y ∈ lw_good) (h4 : Cond.initialized C ∈ lw_good) (h5 : c ∈ lw_good) : GoodIn lw_good (wsV own idx C y (c :: lw_good)) := by
  intro w hw
  simp only [wsV, List.cons_append, List.nil_append, List.mem_cons] at hw
  rcases hw with rfl | rfl | rfl | rfl | rfl | hw
  · exact good_T _ h1
  · exact good_T _ h2
  · exact good_T _ h3
  · exact good_T _ h4
  · exact good_T _ h5
  · exact good_T w hw
theorem gS {own : String} {idx : Nat} {y : MethodName} {c : Cond} (h1 : Cond.methodLink own idx y ∈ lw_good) (h2 : Cond.static y ∈ lw_good) (h4 : Cond.initialized y.cls ∈ lw_good) (h5 : c ∈ lw_good) : GoodIn lw_good (va_wsS own idx y (c :: lw_good)) := by
  intro w hw
  simp only [va_wsS, List.cons_append, List.nil_append, List.mem_cons] at hw
  rcases hw with rfl | rfl | rfl | rfl | hw
  · exact good_T _ h1
  · exact good_T _ h2
  · exact good_T _ h4
  · exact good_T _ h5
  · exact good_T w hw
theorem fbS {D : va_G} {cl : List vw_C} {ws : va_W} {tys : List (ClassId × FieldType)} {av : List Value} : FrameBlind (va_Pc av (fun U => va_P D cl ws U.heap ∧ va_K D cl tys U)) := fun a U g mk q => by
  obtain ⟨q0, qP, qK⟩ := q
  exact ⟨q0, qP, va_K.moved (u := U) (U := U.calling g mk a) (Vm.Alike.refl U.vm) qK⟩
theorem fbQ {D : va_G} {cl : List vw_C} {ws : va_W} {tys : List (ClassId × FieldType)} {av : List Value} {sz : Nat} : FrameBlind (va_Pc av (fun U => U.heap.size = sz ∧ va_P D cl ws U.heap ∧ va_K D cl tys U ∧ va_D (fun _ => True) ws)) := fun a U g mk q => by
  obtain ⟨q0, q1, qP, qK, qD⟩ := q
  exact ⟨q0, q1, qP, va_K.moved (u := U) (U := U.calling g mk a) (Vm.Alike.refl U.vm) qK, qD⟩
theorem i_lt {x y : Int32} : x < y ↔ x.toInt < y.toInt := Int32.lt_iff_toInt_lt
theorem i_eq {x y : Int32} : x = y ↔ x.toInt = y.toInt := Int32.toInt_inj.symm
theorem i_test (p v : Int32) (h : ¬ p < 0) (h2 : p ≤ v) : ¬ v < p ∧ ¬ (4000 : Int32) < 3 ∧ ¬ v < 0 := by
  simp only [i_lt, i_le, Int32.reduceToInt] at *
  omega
def by4 (p : Int32) (sh : Int32) : Int32 := (p.toUInt32 >>> (Int32.toUInt32 sh &&& Int32.toUInt32 31)).toInt32 &&& 255
theorem by4_ok {p sh u a x : Int32} (e1 : (p.toUInt32 >>> (Int32.toUInt32 sh &&& Int32.toUInt32 31)).toInt32 = u) (e2 : a = u &&& 255) (e3 : (a.toUInt32 % 65536).toInt32 = x) : vp_nar .char x = by4 p sh := by
  subst e1; subst e2; subst e3
  rw [sc_c2]
  unfold vp_nar by4
  rw [sc_nar]
theorem nle_lit {a N : Nat} (h : a < N) (hN : N < 2 ^ 31) : ¬ nI N ≤ nI a := nI_ge h hN
theorem nI_le_i {a b : Nat} (ha : a < 2 ^ 31) (hb : b < 2 ^ 31) : nI a ≤ nI b ↔ a ≤ b := nI_leI ha hb
def put4 (f : Nat → Int32) (n : Nat) (p : Int32) : Nat → Int32 := upd (upd (upd (upd f n (by4 p 24)) (n + 1) (by4 p 16)) (n + 2) (by4 p 8)) (n + 3) (by4 p 0)
def put20 (f : Nat → Int32) (n : Nat) (a b c d e : Int32) : Nat → Int32 := put4 (put4 (put4 (put4 (put4 f n a) (n + 4) b) (n + 8) c) (n + 12) d) (n + 16) e
theorem has_in {p v r : Int32} (hr : r = if 0 ≤ p ∧ p < v then 1 else 0) (c : ¬ r = 0) (hv : v ≤ 6032) : vp_in p 6032 := by
  refine vp_in_iff.mpr ?_
  by_cases h : 0 ≤ p ∧ p < v
  · simp only [i_lt, i_le, Int32.reduceToInt] at h hv
    omega
  · rw [if_neg h] at hr
    exact absurd hr c
theorem in_of {p v : Int32} {n : Nat} (h0 : ¬ p < 0) (h1 : p < v) (hv : v.toInt ≤ n) : vp_in p n := by
  refine vp_in_iff.mpr ?_
  simp only [i_lt, Int32.reduceToInt] at h0 h1
  omega
theorem in_of' {p v : Int32} {n : Nat} (h0 : ¬ p < 0) (h1 : ¬ v ≤ p) (hv : v.toInt ≤ n) : vp_in p n := by
  refine vp_in_iff.mpr ?_
  simp only [i_lt, i_le, Int32.reduceToInt] at h0 h1
  omega
def nw_all (U : State) : Prop := va_Nw (Cond.fieldLinkNest "PointerHouse$Heads" 72 "PointerHouse$Source" "length" "I" "PointerHouse") U ∧ va_Nw (Cond.methodLinkNest "PointerHouse" 22 ⟨"PointerHouse$Items", "<init>", "()V"⟩ "PointerHouse") U ∧ va_Nw (Cond.fieldLinkNest "PointerHouse$Heads" 160 "PointerHouse$Items" "pairCount" "[I" "PointerHouse") U ∧ va_Nw (Cond.methodLinkNest "PointerHouse" 29 ⟨"PointerHouse$Code", "<init>", "()V"⟩ "PointerHouse") U ∧ va_Nw (Cond.methodLinkNest "PointerHouse" 45 ⟨"PointerHouse$Types", "<init>", "()V"⟩ "PointerHouse") U ∧ va_Nw (Cond.methodLinkNest "PointerHouse$Machine" 15 ⟨"PointerHouse$Memory", "<init>", "()V"⟩ "PointerHouse") U
theorem nw_all.warm {s U : State} (hW : s.WarmedH U.vm) (h : nw_all s) : nw_all U := ⟨va_Nw.warmF hW h.1, va_Nw.warmM hW h.2.1, va_Nw.warmF hW h.2.2.1, va_Nw.warmM hW h.2.2.2.1, va_Nw.warmM hW h.2.2.2.2.1, va_Nw.warmM hW h.2.2.2.2.2⟩
theorem nw_all.same {u U : State} (e : u.vm = U.vm) (h : nw_all u) : nw_all U := ⟨va_Nw.same rfl e h.1, va_Nw.same rfl e h.2.1, va_Nw.same rfl e h.2.2.1, va_Nw.same rfl e h.2.2.2.1, va_Nw.same rfl e h.2.2.2.2.1, va_Nw.same rfl e h.2.2.2.2.2⟩
theorem nw_tbl {A : Array Value} {U : State} (h : ∀ w ∈ lw_tbl, w.before A U = true) : nw_all U := ⟨va_Nw.of rfl (h _ (List.mem_append_right _ (List.mem_of_getElem? (i := 223) (by decide +kernel)))), va_Nw.of rfl (h _ (List.mem_append_right _ (List.mem_of_getElem? (i := 265) (by decide +kernel)))), va_Nw.of rfl (h _ (List.mem_append_right _ (List.mem_of_getElem? (i := 334) (by decide +kernel)))), va_Nw.of rfl (h _ (List.mem_append_right _ (List.mem_of_getElem? (i := 381) (by decide +kernel)))), va_Nw.of rfl (h _ (List.mem_append_right _ (List.mem_of_getElem? (i := 443) (by decide +kernel)))), va_Nw.of rfl (h _ (List.mem_append_right _ (List.mem_of_getElem? (i := 595) (by decide +kernel))))⟩
theorem fbQn {D : va_G} {cl : List vw_C} {ws : va_W} {tys : List (ClassId × FieldType)} {av : List Value} {sz : Nat} : FrameBlind (va_Pc av (fun U => U.heap.size = sz ∧ va_P D cl ws U.heap ∧ va_K D cl tys U ∧ va_D (fun _ => True) ws ∧ nw_all U)) := fun a U g mk q => by
  obtain ⟨q0, q1, qP, qK, qD, qn⟩ := q
  exact ⟨q0, q1, qP, va_K.moved (u := U) (U := U.calling g mk a) (Vm.Alike.refl U.vm) qK, qD, nw_all.same (u := U) (U := U.calling g mk a) rfl qn⟩
section Blk
variable {p : Program} {l : Launch} {e : Env} {R : Room} {s : State} {m : MethodId} {args : Array Value} {below : List Frame} {meth : Method} {c : Code} {H : Heap} {locs : List Loc} {cells slots : Nat} {Q : State → Prop}
variable {cc : ByteArray} {pc : Nat} {ls : Array Slot} {rest : List Value} {D : va_G} {cl : List vw_C} {A : Nat → Prop} {tys : List (ClassId × FieldType)} {ws : va_W} {H0 : Heap}
/-- this.f = new T[n], in a constructor: four instructions, one row more in the world -/
theorem blk_arr (hx : p.tables.exec = Jvm.exec) (hb : c.code = cc) (hT : ∀ w ∈ lw_good, w.before args s = true) {C : String} {T : u_T} {N ci h0 : Nat} {fs : List Value} (hi : ∀ w ∈ u_ws C T N, w ∈ lw_good) (ty0 : Nat → FieldType) (hty : ∀ k, k < N → parseFieldDescriptor (T k).2.2.1 = some (ty0 k)) (hnm : ∀ a, a < N → ∀ b, b < N → a ≠ b → (T a).2.1 ≠ (T b).2.1) (hown : s.vm.findClass C = some m.cls) (hin : meth.name = "<init>")
    (hK : va_K D cl tys s) (hP : va_P D cl ((h0, .inr (ci, fs)) :: ws) H) (hD : va_D A ((h0, .inr (ci, fs)) :: ws)) (hS : va_S A H0 H locs) (hA : ∀ q, H0.size ≤ q → A q) (hc : cl[ci]? = some (C, T, N)) (hl : ls[0]? = some (.val (.ref h0)))
    (k : Nat) (hk : k < N) (hfin : (T k).2.2.2 = true) (hdecl : (T k).1 = C) {index : Nat} (hlink : Cond.fieldLink C index C (T k).2.1 (T k).2.2.1 ∈ lw_good) (hle : k < fs.length)
    {atype : ArrayType} {ty : FieldType} (hac : Cond.arrayClass ty ∈ lw_good) (hat : newarray.typeOf atype = ty) (hd : parseFieldDescriptor (T k).2.2.1 = some (.array ty)) {n : Int32} {N' : Nat} {a0 : vp_A} (ha : ∀ cA : ClassId, vp_cell cA a0 = arrV cA N' (fun _ => defaultValue ty)) (hn : ¬ n < 0) (hN : n.toNatClampNeg = N') (hbytes : N' * componentBytes ty ≤ 536870912) (hcells : cells + 1 ≤ R.cells) (hslots : slots + N' ≤ R.slots)
    {pc2 : Nat} (d1 : decode cc pc = .ok (.aload_n 0, 1)) (hpush : ∀ {ce sl : Nat} {st : List Value}, W p l e R s m args below meth c H locs ce sl Q (F0 m pc2 ls (.int n :: st)) → W p l e R s m args below meth c H locs ce sl Q (F0 m (pc + 1) ls st)) (d3 : decode cc pc2 = .ok (.newarray atype, 2)) (d4 : decode cc (pc2 + 2) = .ok (.putfield index, 3))
    (kk : ∀ (q : Nat) (cA : ClassId) (H1 : Heap) (locs1 : List Loc), va_K D cl (tys ++ [(cA, ty)]) s → va_P D cl ((h0, .inr (ci, fs.set k (.ref q))) :: (ws ++ [(q, .inl (cA, a0))])) H1 → va_D A ((h0, .inr (ci, fs.set k (.ref q))) :: (ws ++ [(q, .inl (cA, a0))])) → va_S A H0 H1 locs1 → W p l e R s m args below meth c H1 locs1 (cells + 1) (slots + N') Q (F0 m (pc2 + 5) ls rest)) :
    W p l e R s m args below meth c H locs cells slots Q (F0 m pc ls rest) := by
  subst hat
  refine lv_aload_n hx hb d1 rfl hl ?_
  refine hpush ?_
  refine va_newa (atype := atype) (a0 := a0) hx hb (hT _ hac) rfl hK hP hD hS hA ha hn hN hbytes hcells hslots d3 (fun q cA H1 hK1 hP1 hD1 hS1 => ?_)
  refine va_putF (D := D) (ci := ci) (v := .ref q) (ty := .array (newarray.typeOf atype)) (C := C) (T := T) (N := N) hx hb hT hi ty0 hty hnm hown hK1 hP1 hD1 hS1 0 rfl hc k hk (hT _ hlink) (fun x9 h9 => by rw [hdecl] at h9; exact h9) hfin hin hdecl hd rfl rfl hle d4 (fun H2 locs2 hP2 hD2 hS2 => ?_)
  exact kk q cA H2 locs2 hK1 hP2 hD2 hS2
end Blk
