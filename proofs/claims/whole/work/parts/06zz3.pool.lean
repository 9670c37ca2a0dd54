/-- the fields of a class by tables: kd k = 0: an int, 1: a long, 2: a row (the ord k-th that is made; null until then) -/
def fsG (N : Nat) (kd ord : Nat → Nat) (n : Nat) (hm : Nat → Nat) (iv : Nat → Int32) (lv : Nat → Int64) : List Value := (List.range N).map (fun k => if kd k = 0 then .int (iv k) else if kd k = 1 then .long (lv k) else if ord k < n then .ref (hm (ord k)) else .null)
def poolG (av : Nat → vp_A) (n : Nat) (hm : Nat → Nat) (km : Nat → ClassId) : va_W := (List.range n).map (fun i => (hm i, .inl (km i, av i)))
def tysG (tt : Nat → FieldType) (n : Nat) (km : Nat → ClassId) : List (ClassId × FieldType) := (List.range n).map (fun i => (km i, tt i))
theorem fsG_len {N : Nat} {kd ord : Nat → Nat} {n : Nat} {hm : Nat → Nat} {iv : Nat → Int32} {lv : Nat → Int64} : (fsG N kd ord n hm iv lv).length = N := by simp [fsG]
theorem fsG_at {N : Nat} {kd ord : Nat → Nat} {n : Nat} {hm : Nat → Nat} {iv : Nat → Int32} {lv : Nat → Int64} {j : Nat} (h : j < N) : (fsG N kd ord n hm iv lv)[j]? = some (if kd j = 0 then .int (iv j) else if kd j = 1 then .long (lv j) else if ord j < n then .ref (hm (ord j)) else .null) := by
  simp [fsG, h]
theorem fsG_ref {N : Nat} {kd ord : Nat → Nat} {n : Nat} {hm : Nat → Nat} {iv : Nat → Int32} {lv : Nat → Int64} {k q : Nat} (hkd : kd k = 2) (hord : ord k = n) (hinj : ∀ j, j < N → kd j = 2 → ord j = n → j = k) (h2 : ∀ j, j < N → kd j < 3) : (fsG N kd ord n hm iv lv).set k (.ref q) = fsG N kd ord (n + 1) (va_up hm n q) iv lv := by
  refine List.ext_getElem? (fun j => ?_)
  rw [List.getElem?_set, fsG_len]
  by_cases hj : j < N
  · by_cases e : k = j
    · subst e
      rw [if_pos rfl, if_pos hj, fsG_at hj, if_neg (by omega), if_neg (by omega), if_pos (by omega), hord]
      simp [va_up]
    · rw [if_neg e, fsG_at hj, fsG_at hj]
      by_cases c0 : kd j = 0
      · rw [if_pos c0, if_pos c0]
      · by_cases c1 : kd j = 1
        · rw [if_neg c0, if_neg c0, if_pos c1, if_pos c1]
        · have hn : ord j ≠ n := fun z => e (hinj j hj (by have := h2 j hj; omega) z).symm
          rw [if_neg c0, if_neg c0, if_neg c1, if_neg c1]
          by_cases c2 : ord j < n
          · rw [if_pos c2, if_pos (by omega)]
            simp [va_up, hn]
          · rw [if_neg c2, if_neg (by omega)]
  · have e1 : (fsG N kd ord (n + 1) (va_up hm n q) iv lv)[j]? = none := List.getElem?_eq_none (by rw [fsG_len]; omega)
    have e2 : (fsG N kd ord n hm iv lv)[j]? = none := List.getElem?_eq_none (by rw [fsG_len]; omega)
    rw [e1, e2]
    by_cases e : k = j
    · rw [if_pos e, if_neg (by omega)]
    · rw [if_neg e]
theorem fsG_int {N : Nat} {kd ord : Nat → Nat} {n : Nat} {hm : Nat → Nat} {iv : Nat → Int32} {lv : Nat → Int64} {k : Nat} {v : Int32} (hkd : kd k = 0) : (fsG N kd ord n hm iv lv).set k (.int v) = fsG N kd ord n hm (va_up iv k v) lv := by
  refine List.ext_getElem? (fun j => ?_)
  rw [List.getElem?_set, fsG_len]
  by_cases hj : j < N
  · by_cases e : k = j
    · subst e
      rw [if_pos rfl, if_pos hj, fsG_at hj, if_pos hkd]
      simp [va_up]
    · rw [if_neg e, fsG_at hj, fsG_at hj]
      have : va_up iv k v j = iv j := by simp [va_up, Ne.symm e]
      rw [this]
  · have e1 : (fsG N kd ord n hm (va_up iv k v) lv)[j]? = none := List.getElem?_eq_none (by rw [fsG_len]; omega)
    have e2 : (fsG N kd ord n hm iv lv)[j]? = none := List.getElem?_eq_none (by rw [fsG_len]; omega)
    rw [e1, e2]
    by_cases e : k = j
    · rw [if_pos e, if_neg (by omega)]
    · rw [if_neg e]
theorem poolG_add {av : Nat → vp_A} {n : Nat} {hm : Nat → Nat} {km : Nat → ClassId} {q : Nat} {cA : ClassId} : poolG av n hm km ++ [(q, .inl (cA, av n))] = poolG av (n + 1) (va_up hm n q) (va_up km n cA) := by
  unfold poolG
  rw [List.range_succ, List.map_append]
  congr 1
  · refine List.map_congr_left (fun i hi => ?_)
    have : i ≠ n := by have := List.mem_range.mp hi; omega
    simp [va_up, this]
  · simp [va_up]
theorem tysG_add {tt : Nat → FieldType} {n : Nat} {km : Nat → ClassId} {cA : ClassId} : tysG tt n km ++ [(cA, tt n)] = tysG tt (n + 1) (va_up km n cA) := by
  unfold tysG
  rw [List.range_succ, List.map_append]
  congr 1
  · refine List.map_congr_left (fun i hi => ?_)
    have : i ≠ n := by have := List.mem_range.mp hi; omega
    simp [va_up, this]
  · simp [va_up]
section BlkG
variable {p : Program} {l : Launch} {e : Env} {R : Room} {s : State} {m : MethodId} {args : Array Value} {below : List Frame} {meth : Method} {c : Code} {H : Heap} {locs : List Loc} {cells slots : Nat} {Q : State → Prop}
variable {cc : ByteArray} {pc : Nat} {ls : Array Slot} {rest : List Value} {D : va_G} {cl : List vw_C} {A : Nat → Prop} {H0 : Heap}
theorem blkG (hx : p.tables.exec = Jvm.exec) (hb : c.code = cc) (hT : ∀ w ∈ lw_good, w.before args s = true) {C : String} {T : u_T} {N ci h0 : Nat} (hi : ∀ w ∈ u_ws C T N, w ∈ lw_good) (ty0 : Nat → FieldType) (hty : ∀ k, k < N → parseFieldDescriptor (T k).2.2.1 = some (ty0 k)) (hnm : ∀ a, a < N → ∀ b, b < N → a ≠ b → (T a).2.1 ≠ (T b).2.1) (hown : s.vm.findClass C = some m.cls) (hin : meth.name = "<init>")
    {kd ord : Nat → Nat} {av : Nat → vp_A} {tt : Nat → FieldType} (h2 : ∀ j, j < N → kd j < 3) (n : Nat) {hm : Nat → Nat} {km : Nat → ClassId} {iv : Nat → Int32} {lv : Nat → Int64}
    (hK : va_K D cl (tysG tt n km) s) (hP : va_P D cl ((h0, .inr (ci, fsG N kd ord n hm iv lv)) :: poolG av n hm km) H) (hD : va_D A ((h0, .inr (ci, fsG N kd ord n hm iv lv)) :: poolG av n hm km)) (hS : va_S A H0 H locs) (hA : ∀ q, H0.size ≤ q → A q) (hc : cl[ci]? = some (C, T, N)) (hl : ls[0]? = some (.val (.ref h0)))
    (k : Nat) (hk : k < N) (hkd : kd k = 2) (hord : ord k = n) (hinj : ∀ j, j < N → kd j = 2 → ord j = n → j = k) (hfin : (T k).2.2.2 = true) (hdecl : (T k).1 = C) {index : Nat} (hlink : Cond.fieldLink C index C (T k).2.1 (T k).2.2.1 ∈ lw_good)
    {atype : ArrayType} (hac : Cond.arrayClass (tt n) ∈ lw_good) (hat : newarray.typeOf atype = tt n) (hd : parseFieldDescriptor (T k).2.2.1 = some (.array (tt n))) {x : Int32} {N' : Nat} (ha : ∀ cA : ClassId, vp_cell cA (av n) = arrV cA N' (fun _ => defaultValue (tt n))) (hn : ¬ x < 0) (hN : x.toNatClampNeg = N') (hbytes : N' * componentBytes (tt n) ≤ 536870912) (hcells : cells + 1 ≤ R.cells) (hslots : slots + N' ≤ R.slots)
    {pc2 : Nat} (d1 : decode cc pc = .ok (.aload_n 0, 1)) (hpush : ∀ {ce sl : Nat} {st : List Value}, W p l e R s m args below meth c H locs ce sl Q (F0 m pc2 ls (.int x :: st)) → W p l e R s m args below meth c H locs ce sl Q (F0 m (pc + 1) ls st)) (d3 : decode cc pc2 = .ok (.newarray atype, 2)) (d4 : decode cc (pc2 + 2) = .ok (.putfield index, 3))
    (kk : ∀ (hm : Nat → Nat) (km : Nat → ClassId) (H1 : Heap) (locs1 : List Loc), va_K D cl (tysG tt (n + 1) km) s → va_P D cl ((h0, .inr (ci, fsG N kd ord (n + 1) hm iv lv)) :: poolG av (n + 1) hm km) H1 → va_D A ((h0, .inr (ci, fsG N kd ord (n + 1) hm iv lv)) :: poolG av (n + 1) hm km) → va_S A H0 H1 locs1 → W p l e R s m args below meth c H1 locs1 (cells + 1) (slots + N') Q (F0 m (pc2 + 5) ls rest)) :
    W p l e R s m args below meth c H locs cells slots Q (F0 m pc ls rest) := by
  refine blk_arr hx hb hT hi ty0 hty hnm hown hin hK hP hD hS hA hc hl k hk hfin hdecl hlink (by rw [fsG_len]; exact hk) hac hat hd ha hn hN hbytes hcells hslots d1 hpush d3 d4 (fun q cA H1 locs1 hK1 hP1 hD1 hS1 => ?_)
  rw [fsG_ref hkd hord hinj h2, poolG_add] at hP1 hD1
  rw [tysG_add] at hK1
  exact kk _ _ H1 locs1 hK1 hP1 hD1 hS1
end BlkG
