def R_Lat : String := "java/lang/StringLatin1"
theorem ini_Lat : Cond.initialized R_Lat ∈ lw_good := lg_right (i := 4) (by decide +kernel) rfl
def R_Pre : String := "jdk/internal/util/Preconditions"
theorem ini_Pre : Cond.initialized R_Pre ∈ lw_good := lg_right (i := 5) (by decide +kernel) rfl
def R_Arr : String := "java/util/Arrays"
theorem ini_Arr : Cond.initialized R_Arr ∈ lw_good := lg_right (i := 7) (by decide +kernel) rfl
def R_Math : String := "java/lang/Math"
theorem ini_Math : Cond.initialized R_Math ∈ lw_good := lg_right (i := 8) (by decide +kernel) rfl
def R_Sys : String := "java/lang/System"
theorem ini_Sys : Cond.initialized R_Sys ∈ lw_good := lg_right (i := 9) (by decide +kernel) rfl
theorem env_obj {ad av : Nat → Nat} {A : Nat → Prop} {U : State} {H : Heap} {i : Nat} (h : env0 ad av A U H) (hi : i < 33) : va_O "java/lang/String" (ad i) A U H := ((h.2.2 i hi).1.1 0 (by decide)).1
theorem env_cod {ad av : Nat → Nat} {A : Nat → Prop} {U : State} {H : Heap} {i : Nat} (h : env0 ad av A U H) (hi : i < 33) : va_OF "java/lang/String" "coder" "B" (.int 0) (ad i) A U H := ((h.2.2 i hi).1.1 0 (by decide)).2.1
theorem env_val {ad av : Nat → Nat} {A : Nat → Prop} {U : State} {H : Heap} {i : Nat} (h : env0 ad av A U H) (hi : i < 33) : va_OF "java/lang/String" "value" "[B" (.ref (av i)) (ad i) A U H := ((h.2.2 i hi).1.1 0 (by decide)).2.2.1
theorem env_byt {ad av : Nat → Nat} {A : Nat → Prop} {U : State} {H : Heap} {i : Nat} (h : env0 ad av A U H) (hi : i < 33) : va_T .byte (av i) (s_len.getD i 0) (fun j => .int ((s_byt.getD i []).getD j 0)) A U H := ((h.2.2 i hi).1.1 0 (by decide)).2.2.2
theorem env_recv {ad av : Nat → Nat} {A : Nat → Prop} {s : State} {H : Heap} {locs : List Loc} {i : Nat} (h : env0 ad av A s s.heap) (hi : i < 33) (hS : va_S A s.heap H locs) : ∃ cell : Cell, H[ad i]? = some cell ∧ cell.vm.isStatics = false ∧ s.vm.findClass "java/lang/String" = some cell.cls := vk_recv (i := 0) (h.2.2 i hi).1 (by decide) hS
theorem fbSe {D : va_G} {cl : List vw_C} {ws : va_W} {tys : List (ClassId × FieldType)} {av0 : List Value} {ad av : Nat → Nat} {A : Nat → Prop} : FrameBlind (va_Pc av0 (fun U => va_P D cl ws U.heap ∧ va_K D cl tys U ∧ env0 ad av A U U.heap)) := fun a U g mk q => by
  obtain ⟨q0, qP, qK, qe⟩ := q
  exact ⟨q0, qP, va_K.moved (u := U) (U := U.calling g mk a) (Vm.Alike.refl U.vm) qK, env0.same (u := U) (U := U.calling g mk a) rfl qe⟩
theorem fbQe {D : va_G} {cl : List vw_C} {ws : va_W} {tys : List (ClassId × FieldType)} {av0 : List Value} {sz : Nat} {ad av : Nat → Nat} {A : Nat → Prop} : FrameBlind (va_Pc av0 (fun U => U.heap.size = sz ∧ va_P D cl ws U.heap ∧ va_K D cl tys U ∧ va_D (fun _ => True) ws ∧ env0 ad av A U U.heap)) := fun a U g mk q => by
  obtain ⟨q0, q1, qP, qK, qD, qe⟩ := q
  exact ⟨q0, q1, qP, va_K.moved (u := U) (U := U.calling g mk a) (Vm.Alike.refl U.vm) qK, qD, env0.same (u := U) (U := U.calling g mk a) rfl qe⟩
theorem fbQne {D : va_G} {cl : List vw_C} {ws : va_W} {tys : List (ClassId × FieldType)} {av0 : List Value} {sz : Nat} {ad av : Nat → Nat} {A : Nat → Prop} : FrameBlind (va_Pc av0 (fun U => U.heap.size = sz ∧ va_P D cl ws U.heap ∧ va_K D cl tys U ∧ va_D (fun _ => True) ws ∧ nw_all U ∧ env0 ad av A U U.heap)) := fun a U g mk q => by
  obtain ⟨q0, q1, qP, qK, qD, qn, qe⟩ := q
  exact ⟨q0, q1, qP, va_K.moved (u := U) (U := U.calling g mk a) (Vm.Alike.refl U.vm) qK, qD, nw_all.same (u := U) (U := U.calling g mk a) rfl qn, env0.same (u := U) (U := U.calling g mk a) rfl qe⟩