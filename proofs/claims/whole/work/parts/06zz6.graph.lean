abbrev gL : Type := (Nat × Nat) × (Nat → Nat) × (Nat → Nat) × (Nat → Nat → Nat) × (Nat → Nat) × (Nat → Nat) × (Nat → Nat) × (Nat → Nat) × (Nat → Nat) × (Nat → FieldType)
def gO (L : gL) : Nat := L.1.1
def gA (L : gL) : Nat := L.1.2
def gci (L : gL) : Nat → Nat := L.2.1
def gnf (L : gL) : Nat → Nat := L.2.2.1
def gb (L : gL) : Nat → Nat → Nat := L.2.2.2.1
def gkd (L : gL) : Nat → Nat := L.2.2.2.2.1
def grf (L : gL) : Nat → Nat := L.2.2.2.2.2.1
def gln (L : gL) : Nat → Nat := L.2.2.2.2.2.2.1
def glg (L : gL) : Nat → Nat := L.2.2.2.2.2.2.2.1
def gid (L : gL) : Nat → Nat := L.2.2.2.2.2.2.2.2.1
def gtt (L : gL) : Nat → FieldType := L.2.2.2.2.2.2.2.2.2
def gv (L : gL) (ad : Nat → Nat) (T : gSt) (g : Nat) : Value := if gkd L g = 0 then .int (T.1 g 0) else if gkd L g = 1 then .long (T.2 g 0) else if gkd L g = 2 then .ref (ad (gO L + grf L g)) else if gkd L g = 3 then .ref (ad (grf L g)) else if T.1 g 0 = 0 then .null else .ref (ad (gO L + grf L g))
def gf (L : gL) (ad : Nat → Nat) (T : gSt) (o : Nat) : List Value := (List.range (gnf L o)).map (fun k => gv L ad T (gb L o k))
def gc (L : gL) (T : gSt) (i : Nat) : vp_A := (gln L i, if glg L i = 1 then .inr (.inl (T.2 (gid L i))) else .inl (T.1 (gid L i)))
def gW (L : gL) (ad : Nat → Nat) (km : Nat → ClassId) (T : gSt) : va_W := (List.range (gO L)).map (fun o => (ad o, .inr (gci L o, gf L ad T o))) ++ (List.range (gA L)).map (fun i => (ad (gO L + i), .inl (km i, gc L T i)))
def gT (L : gL) (km : Nat → ClassId) : List (ClassId × FieldType) := (List.range (gA L)).map (fun i => (km i, gtt L i))
def gOk (L : gL) : Prop := (∀ i, i < gA L → gkd L (gid L i) = 2) ∧ (∀ i, i < gA L → ∀ j, j < gA L → gid L i = gid L j → i = j) ∧ ∀ o, o < gO L → ∀ o', o' < gO L → ∀ k, k < gnf L o → ∀ k', k' < gnf L o' → gb L o k = gb L o' k' → o = o' ∧ k = k'
theorem gOk_of {L : gL} (h1 : ∀ i, i < gA L → gkd L (gid L i) = 2) (h2 : ∀ i, i < gA L → ∀ j, j < gA L → gid L i = gid L j → i = j) (h3 : ((List.range (gO L)).all fun o => (List.range (gO L)).all fun o' => (List.range (gnf L o)).all fun k => (List.range (gnf L o')).all fun k' => decide (gb L o k = gb L o' k' → o = o' ∧ k = k')) = true) : gOk L := by
  refine ⟨h1, h2, fun o ho o' ho' k hk k' hk' e => ?_⟩
  have a1 := List.all_eq_true.mp h3 o (List.mem_range.mpr ho)
  have a2 := List.all_eq_true.mp a1 o' (List.mem_range.mpr ho')
  have a3 := List.all_eq_true.mp a2 k (List.mem_range.mpr hk)
  have a4 := List.all_eq_true.mp a3 k' (List.mem_range.mpr hk')
  exact of_decide_eq_true a4 e
theorem gf_len {L : gL} {ad : Nat → Nat} {T : gSt} {o : Nat} : (gf L ad T o).length = gnf L o := by simp [gf]
theorem gf_k {L : gL} {ad : Nat → Nat} {T : gSt} {o k : Nat} (h : k < gnf L o) : (gf L ad T o)[k]? = some (gv L ad T (gb L o k)) := by simp [gf, h]
theorem gW_len {L : gL} {ad : Nat → Nat} {km : Nat → ClassId} {T : gSt} : (gW L ad km T).length = gO L + gA L := by simp [gW]
theorem gW_o {L : gL} {ad : Nat → Nat} {km : Nat → ClassId} {T : gSt} {o : Nat} (h : o < gO L) : (gW L ad km T)[o]? = some (ad o, .inr (gci L o, gf L ad T o)) := by
  unfold gW
  rw [List.getElem?_append_left (by simpa using h)]
  simp [h]
theorem gW_a {L : gL} {ad : Nat → Nat} {km : Nat → ClassId} {T : gSt} {i : Nat} (h : i < gA L) : (gW L ad km T)[gO L + i]? = some (ad (gO L + i), .inl (km i, gc L T i)) := by
  unfold gW
  rw [List.getElem?_append_right (by simp)]
  simp [h]
theorem gT_a {L : gL} {km : Nat → ClassId} {i : Nat} (h : i < gA L) : (gT L km)[i]? = some (km i, gtt L i) := by simp [gT, h]
theorem gW_ext {L : gL} {ad : Nat → Nat} {km : Nat → ClassId} {T : gSt} {ws : va_W} (hl : ws.length = gO L + gA L) (ho : ∀ o, o < gO L → ws[o]? = some (ad o, .inr (gci L o, gf L ad T o))) (ha : ∀ i, i < gA L → ws[gO L + i]? = some (ad (gO L + i), .inl (km i, gc L T i))) : ws = gW L ad km T := by
  refine List.ext_getElem? (fun j => ?_)
  by_cases hj : j < gO L
  · rw [ho j hj, gW_o hj]
  · by_cases hi : j - gO L < gA L
    · have e : j = gO L + (j - gO L) := by omega
      rw [e, ha _ hi, gW_a hi]
    · rw [List.getElem?_eq_none (by omega), List.getElem?_eq_none (by rw [gW_len]; omega)]
theorem gv_sI {L : gL} {ad : Nat → Nat} {T : gSt} {g i g' : Nat} {v : Int32} (h : g' ≠ g ∨ gkd L g' = 2) : gv L ad (sI T g i v) g' = gv L ad T g' := by
  rcases h with h | h
  · unfold gv sI
    simp only [if_neg h]
  · unfold gv
    rw [h]
    simp
theorem gv_sJ {L : gL} {ad : Nat → Nat} {T : gSt} {g i g' : Nat} {v : Int64} (h : g' ≠ g ∨ gkd L g' = 2) : gv L ad (sJ T g i v) g' = gv L ad T g' := by
  rcases h with h | h
  · unfold gv sJ
    simp only [if_neg h]
  · unfold gv
    rw [h]
    simp
theorem gf_sI {L : gL} {ad : Nat → Nat} {T : gSt} {g i o : Nat} {v : Int32} (h : ∀ k, k < gnf L o → gb L o k ≠ g ∨ gkd L (gb L o k) = 2) : gf L ad (sI T g i v) o = gf L ad T o := List.map_congr_left (fun k hk => gv_sI (h k (List.mem_range.mp hk)))
theorem gf_sJ {L : gL} {ad : Nat → Nat} {T : gSt} {g i o : Nat} {v : Int64} (h : ∀ k, k < gnf L o → gb L o k ≠ g ∨ gkd L (gb L o k) = 2) : gf L ad (sJ T g i v) o = gf L ad T o := List.map_congr_left (fun k hk => gv_sJ (h k (List.mem_range.mp hk)))
theorem gf_set {L : gL} {ad : Nat → Nat} {T T' : gSt} {o k : Nat} {v : Value} (hk : k < gnf L o) (h1 : gv L ad T' (gb L o k) = v) (h2 : ∀ k', k' < gnf L o → k' ≠ k → gv L ad T' (gb L o k') = gv L ad T (gb L o k')) : (gf L ad T o).set k v = gf L ad T' o := by
  refine List.ext_getElem? (fun j => ?_)
  rw [List.getElem?_set, gf_len]
  by_cases hj : j < gnf L o
  · rw [gf_k (T := T') hj]
    by_cases e : k = j
    · subst e
      rw [if_pos rfl, if_pos hj, h1]
    · rw [if_neg e, gf_k hj, h2 j hj (Ne.symm e)]
  · rw [if_neg (by omega), List.getElem?_eq_none (by rw [gf_len]; omega), List.getElem?_eq_none (by rw [gf_len]; omega)]
theorem gc_sI {L : gL} {T : gSt} {g j i : Nat} {v : Int32} (h : gid L i ≠ g) : gc L (sI T g j v) i = gc L T i := by
  unfold gc sI
  simp only [if_neg h]
theorem gc_sJ {L : gL} {T : gSt} {g j i : Nat} {v : Int64} (h : gid L i ≠ g) : gc L (sJ T g j v) i = gc L T i := by
  unfold gc sJ
  simp only [if_neg h]
theorem gv_i {L : gL} {ad : Nat → Nat} {T : gSt} {g : Nat} (h : gkd L g = 0) : gv L ad T g = .int (T.1 g 0) := by
  unfold gv
  rw [if_pos h]
theorem gv_l {L : gL} {ad : Nat → Nat} {T : gSt} {g : Nat} (h : gkd L g = 1) : gv L ad T g = .long (T.2 g 0) := by
  unfold gv
  rw [if_neg (by omega), if_pos h]
theorem gv_a {L : gL} {ad : Nat → Nat} {T : gSt} {g : Nat} (h : gkd L g = 2) : gv L ad T g = .ref (ad (gO L + grf L g)) := by
  unfold gv
  rw [if_neg (by omega), if_neg (by omega), if_pos h]
theorem gv_o {L : gL} {ad : Nat → Nat} {T : gSt} {g : Nat} (h : gkd L g = 3) : gv L ad T g = .ref (ad (grf L g)) := by
  unfold gv
  rw [if_neg (by omega), if_neg (by omega), if_neg (by omega), if_pos h]
theorem gW_si {L : gL} (ok : gOk L) {ad : Nat → Nat} {km : Nat → ClassId} {T : gSt} {o k g : Nat} (ho : o < gO L) (hk : k < gnf L o) (hg : gb L o k = g) (hkd : gkd L g = 0) (v : Int32) : (gW L ad km T).set o (ad o, .inr (gci L o, (gf L ad T o).set k (.int v))) = gW L ad km (sI T g 0 v) := by
  subst hg
  refine gW_ext (by rw [List.length_set, gW_len]) (fun o' h' => ?_) (fun i h' => ?_)
  · rw [List.getElem?_set, gW_len]
    by_cases e : o = o'
    · subst e
      rw [if_pos rfl, if_pos (by omega), gf_set (T' := sI T (gb L o k) 0 v) hk (by rw [gv_i hkd, sI_v]) (fun k' h9 hne => gv_sI (Or.inl (fun q9 => hne (ok.2.2 o ho o ho k' h9 k hk q9).2)))]
    · rw [if_neg e, gW_o h', gf_sI (fun k' hk' => Or.inl (fun q => e (ok.2.2 o ho o' h' k hk k' hk' q.symm).1))]
  · rw [List.getElem?_set, if_neg (by omega), gW_a h', gc_sI (fun q => by have := ok.1 i h'; rw [q] at this; omega)]
theorem gW_sj {L : gL} (ok : gOk L) {ad : Nat → Nat} {km : Nat → ClassId} {T : gSt} {o k g : Nat} (ho : o < gO L) (hk : k < gnf L o) (hg : gb L o k = g) (hkd : gkd L g = 1) (v : Int64) : (gW L ad km T).set o (ad o, .inr (gci L o, (gf L ad T o).set k (.long v))) = gW L ad km (sJ T g 0 v) := by
  subst hg
  refine gW_ext (by rw [List.length_set, gW_len]) (fun o' h' => ?_) (fun i h' => ?_)
  · rw [List.getElem?_set, gW_len]
    by_cases e : o = o'
    · subst e
      rw [if_pos rfl, if_pos (by omega), gf_set (T' := sJ T (gb L o k) 0 v) hk (by rw [gv_l hkd, sJ_v]) (fun k' h9 hne => gv_sJ (Or.inl (fun q9 => hne (ok.2.2 o ho o ho k' h9 k hk q9).2)))]
    · rw [if_neg e, gW_o h', gf_sJ (fun k' hk' => Or.inl (fun q => e (ok.2.2 o ho o' h' k hk k' hk' q.symm).1))]
  · rw [List.getElem?_set, if_neg (by omega), gW_a h', gc_sJ (fun q => by have := ok.1 i h'; rw [q] at this; omega)]
theorem gW_ai {L : gL} (ok : gOk L) {ad : Nat → Nat} {km : Nat → ClassId} {T : gSt} {i g : Nat} (hi : i < gA L) (hg : gid L i = g) (hlg : glg L i = 0) (j : Nat) (v : Int32) : (gW L ad km T).set (gO L + i) (ad (gO L + i), .inl (km i, (gln L i, .inl (upd (T.1 g) j v)))) = gW L ad km (sI T g j v) := by
  subst hg
  refine gW_ext (by rw [List.length_set, gW_len]) (fun o' h' => ?_) (fun i' h' => ?_)
  · rw [List.getElem?_set, if_neg (by omega), gW_o h', gf_sI (fun k' hk' => ?_)]
    by_cases e : gb L o' k' = gid L i
    · exact Or.inr (by rw [e]; exact ok.1 i hi)
    · exact Or.inl e
  · rw [List.getElem?_set, gW_len]
    by_cases e : i = i'
    · subst e
      rw [if_pos rfl, if_pos (by omega)]
      unfold gc
      rw [if_neg (by omega), sI_at]
    · rw [if_neg (by omega), gW_a h', gc_sI (fun q => e (ok.2.1 i hi i' h' q.symm))]
theorem gW_aj {L : gL} (ok : gOk L) {ad : Nat → Nat} {km : Nat → ClassId} {T : gSt} {i g : Nat} (hi : i < gA L) (hg : gid L i = g) (hlg : glg L i = 1) (j : Nat) (v : Int64) : (gW L ad km T).set (gO L + i) (ad (gO L + i), .inl (km i, (gln L i, .inr (.inl (vp_updL (T.2 g) j v))))) = gW L ad km (sJ T g j v) := by
  subst hg
  refine gW_ext (by rw [List.length_set, gW_len]) (fun o' h' => ?_) (fun i' h' => ?_)
  · rw [List.getElem?_set, if_neg (by omega), gW_o h', gf_sJ (fun k' hk' => ?_)]
    by_cases e : gb L o' k' = gid L i
    · exact Or.inr (by rw [e]; exact ok.1 i hi)
    · exact Or.inl e
  · rw [List.getElem?_set, gW_len]
    by_cases e : i = i'
    · subst e
      rw [if_pos rfl, if_pos (by omega)]
      unfold gc
      rw [if_pos hlg, sJ_at]
    · rw [if_neg (by omega), gW_a h', gc_sJ (fun q => e (ok.2.1 i hi i' h' q.symm))]
theorem gc_i {L : gL} {T : gSt} {i g n : Nat} (hlg : glg L i = 0) (hg : gid L i = g) (hn : gln L i = n) : gc L T i = (n, .inl (T.1 g)) := by
  unfold gc
  rw [if_neg (by omega), hg, hn]
theorem gc_j {L : gL} {T : gSt} {i g n : Nat} (hlg : glg L i = 1) (hg : gid L i = g) (hn : gln L i = n) : gc L T i = (n, .inr (.inl (T.2 g))) := by
  unfold gc
  rw [if_pos hlg, hg, hn]
def rmD (d : Nat) : Room := { frames := d + 10, cells := 0, slots := 0, locals := 100 * d + 1000 }
theorem rm_lo {d n : Nat} (h : n ≤ 81) : 8 + (n + 11) + (100 * d + 1000) ≤ 100 * (d + 1) + 1000 := by omega
theorem rm_f1 {d : Nat} : 1 ≤ d + 1 + 10 := by omega
theorem rm_l1 {d n : Nat} (h : n ≤ 1000) : n ≤ 100 * (d + 1) + 1000 := by omega
theorem rm_hi {d : Nat} : d + 10 + 1 ≤ d + 1 + 10 := by omega
/-! contracts over a whole graph -/
abbrev gPre (dC : Nat → ClassId) (dI : Nat → Nat → Nat) (L : gL) (ad : Nat → Nat) (km : Nat → ClassId) (ea ev : Nat → Nat) (T : gSt) (sz : Nat) (U : State) : Prop := U.heap.size = sz ∧ va_P (dC, dI) cls_all (gW L ad km T) U.heap ∧ va_K (dC, dI) cls_all (gT L km) U ∧ va_D (fun _ => True) (gW L ad km T) ∧ nw_all U ∧ env0 ea ev (va_A (gW L ad km T) sz) U U.heap
abbrev gPost (dC : Nat → ClassId) (dI : Nat → Nat → Nat) (L : gL) (ad : Nat → Nat) (km : Nat → ClassId) (T' : gSt) (B : Nat → Prop) (t : State) : Prop := va_P (dC, dI) cls_all (gW L ad km T') t.heap ∧ va_K (dC, dI) cls_all (gT L km) t ∧ va_D B (gW L ad km T')
def GMi (l : Launch) (dC : Nat → ClassId) (dI : Nat → Nat → Nat) (L : gL) (ad : Nat → Nat) (km : Nat → ClassId) (ea ev : Nat → Nat) (y : MethodName) (w : List Cond) (rm : Room) (As : List Value) (T : gSt) (r : Int32) (T' : gSt) : Prop :=
  ∀ sz : Nat, Met l y w rm (va_Pc As (gPre dC dI L ad km ea ev T sz)) (va_Qi (fun (z : Int32) (_ : Unit) => z = r) (fun _ t => gPost dC dI L ad km T' (va_A (gW L ad km T) sz) t) (va_A (gW L ad km T) sz)) 0 0 (va_A (gW L ad km T) sz)
def GMl (l : Launch) (dC : Nat → ClassId) (dI : Nat → Nat → Nat) (L : gL) (ad : Nat → Nat) (km : Nat → ClassId) (ea ev : Nat → Nat) (y : MethodName) (w : List Cond) (rm : Room) (As : List Value) (T : gSt) (r : Int64) (T' : gSt) : Prop :=
  ∀ sz : Nat, Met l y w rm (va_Pc As (gPre dC dI L ad km ea ev T sz)) (va_Ql (fun (z : Int64) (_ : Unit) => z = r) (fun _ t => gPost dC dI L ad km T' (va_A (gW L ad km T) sz) t) (va_A (gW L ad km T) sz)) 0 0 (va_A (gW L ad km T) sz)
def GMv (l : Launch) (dC : Nat → ClassId) (dI : Nat → Nat → Nat) (L : gL) (ad : Nat → Nat) (km : Nat → ClassId) (ea ev : Nat → Nat) (y : MethodName) (w : List Cond) (rm : Room) (As : List Value) (T : gSt) (T' : gSt) : Prop :=
  ∀ sz : Nat, Met l y w rm (va_Pc As (gPre dC dI L ad km ea ev T sz)) (va_Qv (fun (_ : Unit) => True) (fun _ t => gPost dC dI L ad km T' (va_A (gW L ad km T) sz) t) (va_A (gW L ad km T) sz)) 0 0 (va_A (gW L ad km T) sz)
theorem fbG {dC : Nat → ClassId} {dI : Nat → Nat → Nat} {L : gL} {ad : Nat → Nat} {km : Nat → ClassId} {ea ev : Nat → Nat} {T : gSt} {sz : Nat} {As : List Value} : FrameBlind (va_Pc As (gPre dC dI L ad km ea ev T sz)) := fun a U g mk q => by
  obtain ⟨q0, q1, qP, qK, qD, qn, qe⟩ := q
  exact ⟨q0, q1, qP, va_K.moved (u := U) (U := U.calling g mk a) (Vm.Alike.refl U.vm) qK, qD, nw_all.same (u := U) (U := U.calling g mk a) rfl qn, env0.same (u := U) (U := U.calling g mk a) rfl qe⟩
theorem gA_free {A : Nat → Prop} {ws : va_W} {H0 H : Heap} {locs : List Loc} (hD : va_D A ws) (hS : va_S A H0 H locs) (hA : ∀ q, H0.size ≤ q → A q) : ∀ q, va_A ws H.size q → A q := by
  intro q h
  rcases h with ⟨k, e, h⟩ | h
  · exact hD.2 k (q, e) h
  · exact hA q (Nat.le_trans hS.1 h)
section GW
variable {p : Program} {l : Launch} {e : Env} {R : Room} {s : State} {m : MethodId} {args : Array Value} {below : List Frame} {meth : Method} {c : Code} {H : Heap} {locs : List Loc} {cells slots : Nat} {Q : State → Prop}
variable {cc : ByteArray} {pc : Nat} {ls : Array Slot} {rest st0 : List Value} {dC : Nat → ClassId} {dI : Nat → Nat → Nat} {A : Nat → Prop} {L : gL} {ad ea ev : Nat → Nat} {km : Nat → ClassId} {T T' : gSt} {H0 : Heap}
variable {own ref C : String} {FT : u_T} {N index : Nat} {Ts : List Cond}
theorem gw_get (hx : p.tables.exec = Jvm.exec) (hb : c.code = cc) (hT : ∀ w ∈ Ts, w.before args s = true) (hin : ∀ w ∈ u_ws C FT N, w ∈ Ts) (hown : s.vm.findClass own = some m.cls) (hK : va_K (dC, dI) cls_all (gT L km) s) (hP : va_P (dC, dI) cls_all (gW L ad km T) H) (o k g : Nat) (ho : o < gO L) (hc : cls_all[gci L o]? = some (C, FT, N)) (hn : gnf L o = N) (hk : k < N) (hg : gb L o k = g) {v : Value} (hv : gv L ad T g = v) (hlink : (Cond.fieldLink own index ref (FT k).2.1 (FT k).2.2.1).before args s = true) (hsame : ∀ x, s.fieldFound? (FT k).1 (FT k).2.1 (FT k).2.2.1 = some x → s.fieldFound? ref (FT k).2.1 (FT k).2.2.1 = some x) (hdg : decode cc pc = .ok (.getfield index, 3))
    (kk : W p l e R s m args below meth c H locs cells slots Q (F0 m (pc + 3) ls (v :: rest))) : W p l e R s m args below meth c H locs cells slots Q (F0 m pc ls (.ref (ad o) :: rest)) :=
  va_get hx hb hT hin hown hK hP o (gW_o ho) hc k hk hlink hsame (by rw [gf_k (by omega), hg, hv]) hdg kk
theorem gw_getN {host : String} (hx : p.tables.exec = Jvm.exec) (hb : c.code = cc) (hT : ∀ w ∈ Ts, w.before args s = true) (hin : ∀ w ∈ u_ws C FT N, w ∈ Ts) (hown : s.vm.findClass own = some m.cls) (hK : va_K (dC, dI) cls_all (gT L km) s) (hP : va_P (dC, dI) cls_all (gW L ad km T) H) (o k g : Nat) (ho : o < gO L) (hc : cls_all[gci L o]? = some (C, FT, N)) (hn : gnf L o = N) (hk : k < N) (hg : gb L o k = g) {v : Value} (hv : gv L ad T g = v) (hlink : (Cond.fieldLinkNest own index ref (FT k).2.1 (FT k).2.2.1 host).before args s = true) (hsame : ∀ x, s.fieldFound? (FT k).1 (FT k).2.1 (FT k).2.2.1 = some x → s.fieldFound? ref (FT k).2.1 (FT k).2.2.1 = some x) (hdg : decode cc pc = .ok (.getfield index, 3))
    (kk : W p l e R s m args below meth c H locs cells slots Q (F0 m (pc + 3) ls (v :: rest))) : W p l e R s m args below meth c H locs cells slots Q (F0 m pc ls (.ref (ad o) :: rest)) :=
  va_getN hx hb hT hin hown hK hP o (gW_o ho) hc k hk hlink hsame (by rw [gf_k (by omega), hg, hv]) hdg kk
theorem gw_puti (ok : gOk L) (hx : p.tables.exec = Jvm.exec) (hb : c.code = cc) (hT : ∀ w ∈ Ts, w.before args s = true) (hin : ∀ w ∈ u_ws C FT N, w ∈ Ts) (ty0 : Nat → FieldType) (hty : ∀ k, k < N → parseFieldDescriptor (FT k).2.2.1 = some (ty0 k)) (hnm : ∀ a, a < N → ∀ b, b < N → a ≠ b → (FT a).2.1 ≠ (FT b).2.1) (hown : s.vm.findClass own = some m.cls) (hK : va_K (dC, dI) cls_all (gT L km) s) (hP : va_P (dC, dI) cls_all (gW L ad km T) H) (hD : va_D A (gW L ad km T)) (hS : va_S A H0 H locs) (o k g : Nat) (ho : o < gO L) (hc : cls_all[gci L o]? = some (C, FT, N)) (hn : gnf L o = N) (hk : k < N) (hg : gb L o k = g) (hkd : gkd L g = 0) (hlink : (Cond.fieldLink own index ref (FT k).2.1 (FT k).2.2.1).before args s = true) (hsame : ∀ x, s.fieldFound? (FT k).1 (FT k).2.1 (FT k).2.2.1 = some x → s.fieldFound? ref (FT k).2.1 (FT k).2.2.1 = some x) (hfin : (FT k).2.2.2 = false) {ty : FieldType} {v : Int32} (hd : parseFieldDescriptor (FT k).2.2.1 = some ty) (hnr : narrow ty (.int v) = .int v) (hft : fits ty (.int v) = true) (hdg : decode cc pc = .ok (.putfield index, 3))
    (kk : ∀ (T1 : gSt), T1 = sI T g 0 v → ∀ (H1 : Heap) (locs1 : List Loc), va_P (dC, dI) cls_all (gW L ad km T1) H1 → va_D A (gW L ad km T1) → va_S A H0 H1 locs1 → W p l e R s m args below meth c H1 locs1 cells slots Q (F0 m (pc + 3) ls rest)) : W p l e R s m args below meth c H locs cells slots Q (F0 m pc ls (.int v :: .ref (ad o) :: rest)) :=
  va_put hx hb hT hin ty0 hty hnm hown hK hP hD hS o (gW_o ho) hc k hk hlink hsame hfin hd hnr hft (by rw [gf_len]; omega) hdg (fun H1 locs1 a1 a2 a3 => by
    rw [gW_si ok ho (by omega) hg hkd v] at a1 a2
    exact kk _ rfl H1 locs1 a1 a2 a3)
theorem gw_putj (ok : gOk L) (hx : p.tables.exec = Jvm.exec) (hb : c.code = cc) (hT : ∀ w ∈ Ts, w.before args s = true) (hin : ∀ w ∈ u_ws C FT N, w ∈ Ts) (ty0 : Nat → FieldType) (hty : ∀ k, k < N → parseFieldDescriptor (FT k).2.2.1 = some (ty0 k)) (hnm : ∀ a, a < N → ∀ b, b < N → a ≠ b → (FT a).2.1 ≠ (FT b).2.1) (hown : s.vm.findClass own = some m.cls) (hK : va_K (dC, dI) cls_all (gT L km) s) (hP : va_P (dC, dI) cls_all (gW L ad km T) H) (hD : va_D A (gW L ad km T)) (hS : va_S A H0 H locs) (o k g : Nat) (ho : o < gO L) (hc : cls_all[gci L o]? = some (C, FT, N)) (hn : gnf L o = N) (hk : k < N) (hg : gb L o k = g) (hkd : gkd L g = 1) (hlink : (Cond.fieldLink own index ref (FT k).2.1 (FT k).2.2.1).before args s = true) (hsame : ∀ x, s.fieldFound? (FT k).1 (FT k).2.1 (FT k).2.2.1 = some x → s.fieldFound? ref (FT k).2.1 (FT k).2.2.1 = some x) (hfin : (FT k).2.2.2 = false) {ty : FieldType} {v : Int64} (hd : parseFieldDescriptor (FT k).2.2.1 = some ty) (hnr : narrow ty (.long v) = .long v) (hft : fits ty (.long v) = true) (hdg : decode cc pc = .ok (.putfield index, 3))
    (kk : ∀ (T1 : gSt), T1 = sJ T g 0 v → ∀ (H1 : Heap) (locs1 : List Loc), va_P (dC, dI) cls_all (gW L ad km T1) H1 → va_D A (gW L ad km T1) → va_S A H0 H1 locs1 → W p l e R s m args below meth c H1 locs1 cells slots Q (F0 m (pc + 3) ls rest)) : W p l e R s m args below meth c H locs cells slots Q (F0 m pc ls (.long v :: .ref (ad o) :: rest)) :=
  va_put hx hb hT hin ty0 hty hnm hown hK hP hD hS o (gW_o ho) hc k hk hlink hsame hfin hd hnr hft (by rw [gf_len]; omega) hdg (fun H1 locs1 a1 a2 a3 => by
    rw [gW_sj ok ho (by omega) hg hkd v] at a1 a2
    exact kk _ rfl H1 locs1 a1 a2 a3)
theorem gw_iald (hx : p.tables.exec = Jvm.exec) (hb : c.code = cc) (hK : va_K (dC, dI) cls_all (gT L km) s) (hP : va_P (dC, dI) cls_all (gW L ad km T) H) (i g n q : Nat) (hi : i < gA L) (hq : gO L + i = q) (hg : gid L i = g) (hn : gln L i = n) (hlg : glg L i = 0) (ht : gtt L i = .int) {x : Int32} (hin : inb x n) (hdg : decode cc pc = .ok (.iaload, 1))
    (kk : W p l e R s m args below meth c H locs cells slots Q (F0 m (pc + 1) ls (.int (T.1 g x.toNatClampNeg) :: rest))) : W p l e R s m args below meth c H locs cells slots Q (F0 m pc ls (.int x :: .ref (ad q) :: rest)) := by
  subst hq
  exact va_iald hx hb hK hP (gO L + i) i (cA := km i) (n := n) (f := T.1 g) (by rw [gW_a hi, gc_i hlg hg hn]) (by rw [gT_a hi, ht]) (vp_in_iff.mpr hin) hdg kk
theorem gw_zald (hx : p.tables.exec = Jvm.exec) (hb : c.code = cc) (hK : va_K (dC, dI) cls_all (gT L km) s) (hP : va_P (dC, dI) cls_all (gW L ad km T) H) (i g n q : Nat) (hi : i < gA L) (hq : gO L + i = q) (hg : gid L i = g) (hn : gln L i = n) (hlg : glg L i = 0) (ht : gtt L i = .boolean) {x : Int32} (hin : inb x n) (hdg : decode cc pc = .ok (.baload, 1))
    (kk : W p l e R s m args below meth c H locs cells slots Q (F0 m (pc + 1) ls (.int (T.1 g x.toNatClampNeg) :: rest))) : W p l e R s m args below meth c H locs cells slots Q (F0 m pc ls (.int x :: .ref (ad q) :: rest)) := by
  subst hq
  exact va_zald hx hb hK hP (gO L + i) i (cA := km i) (n := n) (f := T.1 g) (by rw [gW_a hi, gc_i hlg hg hn]) (by rw [gT_a hi, ht]) (vp_in_iff.mpr hin) hdg kk
theorem gw_cald (hx : p.tables.exec = Jvm.exec) (hb : c.code = cc) (hK : va_K (dC, dI) cls_all (gT L km) s) (hP : va_P (dC, dI) cls_all (gW L ad km T) H) (i g n q : Nat) (hi : i < gA L) (hq : gO L + i = q) (hg : gid L i = g) (hn : gln L i = n) (hlg : glg L i = 0) (ht : gtt L i = .char) {x : Int32} (hin : inb x n) (hdg : decode cc pc = .ok (.caload, 1))
    (kk : W p l e R s m args below meth c H locs cells slots Q (F0 m (pc + 1) ls (.int (T.1 g x.toNatClampNeg) :: rest))) : W p l e R s m args below meth c H locs cells slots Q (F0 m pc ls (.int x :: .ref (ad q) :: rest)) := by
  subst hq
  exact va_cald hx hb hK hP (gO L + i) i (cA := km i) (n := n) (f := T.1 g) (by rw [gW_a hi, gc_i hlg hg hn]) (by rw [gT_a hi, ht]) (vp_in_iff.mpr hin) hdg kk
theorem gw_lald (hx : p.tables.exec = Jvm.exec) (hb : c.code = cc) (hK : va_K (dC, dI) cls_all (gT L km) s) (hP : va_P (dC, dI) cls_all (gW L ad km T) H) (i g n q : Nat) (hi : i < gA L) (hq : gO L + i = q) (hg : gid L i = g) (hn : gln L i = n) (hlg : glg L i = 1) (ht : gtt L i = .long) {x : Int32} (hin : inb x n) (hdg : decode cc pc = .ok (.laload, 1))
    (kk : W p l e R s m args below meth c H locs cells slots Q (F0 m (pc + 1) ls (.long (T.2 g x.toNatClampNeg) :: rest))) : W p l e R s m args below meth c H locs cells slots Q (F0 m pc ls (.int x :: .ref (ad q) :: rest)) := by
  subst hq
  exact va_lald hx hb hK hP (gO L + i) i (cA := km i) (n := n) (f := T.2 g) (by rw [gW_a hi, gc_j hlg hg hn]) (by rw [gT_a hi, ht]) (vp_in_iff.mpr hin) hdg kk
theorem gw_iast (ok : gOk L) (hx : p.tables.exec = Jvm.exec) (hb : c.code = cc) (hK : va_K (dC, dI) cls_all (gT L km) s) (hP : va_P (dC, dI) cls_all (gW L ad km T) H) (hD : va_D A (gW L ad km T)) (hS : va_S A H0 H locs) (i g n q : Nat) (hi : i < gA L) (hq : gO L + i = q) (hg : gid L i = g) (hn : gln L i = n) (hlg : glg L i = 0) (ht : gtt L i = .int) {x v : Int32} (hin : inb x n) (hdg : decode cc pc = .ok (.iastore, 1))
    (kk : ∀ (T1 : gSt), T1 = sI T g x.toNatClampNeg v → ∀ (H1 : Heap) (locs1 : List Loc), va_P (dC, dI) cls_all (gW L ad km T1) H1 → va_D A (gW L ad km T1) → va_S A H0 H1 locs1 → W p l e R s m args below meth c H1 locs1 cells slots Q (F0 m (pc + 1) ls rest)) : W p l e R s m args below meth c H locs cells slots Q (F0 m pc ls (.int v :: .int x :: .ref (ad q) :: rest)) := by
  subst hq
  subst hn
  exact va_iast hx hb hK hP hD hS (gO L + i) i (cA := km i) (f := T.1 g) (by rw [gW_a hi, gc_i hlg hg rfl]) (by rw [gT_a hi, ht]) (vp_in_iff.mpr hin) hdg (fun H1 locs1 a1 a2 a3 => by
    rw [gW_ai ok hi hg hlg] at a1 a2
    exact kk _ rfl H1 locs1 a1 a2 a3)
theorem gw_zast (ok : gOk L) (hx : p.tables.exec = Jvm.exec) (hb : c.code = cc) (hK : va_K (dC, dI) cls_all (gT L km) s) (hP : va_P (dC, dI) cls_all (gW L ad km T) H) (hD : va_D A (gW L ad km T)) (hS : va_S A H0 H locs) (i g n q : Nat) (hi : i < gA L) (hq : gO L + i = q) (hg : gid L i = g) (hn : gln L i = n) (hlg : glg L i = 0) (ht : gtt L i = .boolean) {x v : Int32} (hv : vp_nar .boolean v = v) (hin : inb x n) (hdg : decode cc pc = .ok (.bastore, 1))
    (kk : ∀ (T1 : gSt), T1 = sI T g x.toNatClampNeg v → ∀ (H1 : Heap) (locs1 : List Loc), va_P (dC, dI) cls_all (gW L ad km T1) H1 → va_D A (gW L ad km T1) → va_S A H0 H1 locs1 → W p l e R s m args below meth c H1 locs1 cells slots Q (F0 m (pc + 1) ls rest)) : W p l e R s m args below meth c H locs cells slots Q (F0 m pc ls (.int v :: .int x :: .ref (ad q) :: rest)) := by
  subst hq
  subst hn
  exact va_zast hx hb hK hP hD hS (gO L + i) i (cA := km i) (f := T.1 g) (by rw [gW_a hi, gc_i hlg hg rfl]) (by rw [gT_a hi, ht]) (vp_in_iff.mpr hin) hdg (fun H1 locs1 a1 a2 a3 => by
    rw [hv, gW_ai ok hi hg hlg] at a1 a2
    exact kk _ rfl H1 locs1 a1 a2 a3)
theorem gw_last (ok : gOk L) (hx : p.tables.exec = Jvm.exec) (hb : c.code = cc) (hK : va_K (dC, dI) cls_all (gT L km) s) (hP : va_P (dC, dI) cls_all (gW L ad km T) H) (hD : va_D A (gW L ad km T)) (hS : va_S A H0 H locs) (i g n q : Nat) (hi : i < gA L) (hq : gO L + i = q) (hg : gid L i = g) (hn : gln L i = n) (hlg : glg L i = 1) (ht : gtt L i = .long) {x : Int32} {v : Int64} (hin : inb x n) (hdg : decode cc pc = .ok (.lastore, 1))
    (kk : ∀ (T1 : gSt), T1 = sJ T g x.toNatClampNeg v → ∀ (H1 : Heap) (locs1 : List Loc), va_P (dC, dI) cls_all (gW L ad km T1) H1 → va_D A (gW L ad km T1) → va_S A H0 H1 locs1 → W p l e R s m args below meth c H1 locs1 cells slots Q (F0 m (pc + 1) ls rest)) : W p l e R s m args below meth c H locs cells slots Q (F0 m pc ls (.long v :: .int x :: .ref (ad q) :: rest)) := by
  subst hq
  subst hn
  exact va_last hx hb hK hP hD hS (gO L + i) i (cA := km i) (f := T.2 g) (by rw [gW_a hi, gc_j hlg hg rfl]) (by rw [gT_a hi, ht]) (vp_in_iff.mpr hin) hdg (fun H1 locs1 a1 a2 a3 => by
    rw [gW_aj ok hi hg hlg] at a1 a2
    exact kk _ rfl H1 locs1 a1 a2 a3)
theorem gw_alen (hx : p.tables.exec = Jvm.exec) (hb : c.code = cc) (hK : va_K (dC, dI) cls_all (gT L km) s) (hP : va_P (dC, dI) cls_all (gW L ad km T) H) (i n q : Nat) (hi : i < gA L) (hq : gO L + i = q) (hn : gln L i = n) (hdg : decode cc pc = .ok (.arraylength, 1))
    (kk : W p l e R s m args below meth c H locs cells slots Q (F0 m (pc + 1) ls (.int (nI n) :: rest))) : W p l e R s m args below meth c H locs cells slots Q (F0 m pc ls (.ref (ad q) :: rest)) := by
  subst hq
  subst hn
  exact va_alen hx hb hK hP (gO L + i) i (gW_a hi) (gT_a hi) rfl hdg kk
variable {y : MethodName} {ws : List Cond} {rm : Room} {As : List Value} {nL mL n o : Nat} {bytes : ByteArray} {ret : Option FieldType} {r : Int32} {rl : Int64}
theorem gw_give {sz : Nat} (hS : va_S A s.heap H locs) (hA : ∀ q, s.heap.size ≤ q → A q) (hP : va_P (dC, dI) cls_all (gW L ad km T) H) (hK : va_K (dC, dI) cls_all (gT L km) s) (hD : va_D A (gW L ad km T)) (hnw : nw_all s) (henv : env0 ea ev A s s.heap) (hz : H.size = sz) : ∀ U : State, U.heap = H → s.WarmedH U.vm → gPre dC dI L ad km ea ev T sz U := by
  intro U hU hW
  subst hz
  exact ⟨by rw [hU], by rw [hU]; exact hP, va_K.moved hW.alike hK, hD.weaken (fun _ _ _ _ => trivial), nw_all.warm hW hnw, env0.hand henv hS hU hW (gA_free hD hS hA)⟩
theorem gw_back {t : State} {H1 : Heap} (hD : va_D A (gW L ad km T)) (hS : va_S A s.heap H locs) (hA : ∀ q, s.heap.size ≤ q → A q) (ht : t.heap = H1) (hB : gPost dC dI L ad km T' (va_A (gW L ad km T) H.size) t) : va_P (dC, dI) cls_all (gW L ad km T') H1 ∧ va_D A (gW L ad km T') := by
  obtain ⟨h1, -, h3⟩ := hB
  rw [ht] at h1
  exact ⟨h1, h3.weaken (fun _ _ _ h => gA_free hD hS hA _ h)⟩
theorem gcV_i (S : CallFix p m c cc nL s args Ts own) (hM : GMi l dC dI L ad km ea ev y ws rm (.ref (ad o) :: As) T r T') (cw : CallW R s args own C index y bytes mL ret ws rm 0 0 n) (hK : va_K (dC, dI) cls_all (gT L km) s) (hP : va_P (dC, dI) cls_all (gW L ad km T) H) (hD : va_D A (gW L ad km T)) (hS : va_S A s.heap H locs) (hA : ∀ q, s.heap.size ≤ q → A q) (hnw : nw_all s) (henv : env0 ea ev A s s.heap) (ho : o < gO L) (hc : cls_all[gci L o]? = some (C, FT, N)) (hn : As.length = n) (hsize : ls.size = nL) (hst : st0 = As.reverse ++ .ref (ad o) :: rest) (hW : (rest.map fun v => v.category).sum ≤ 8) (hdg : decode cc pc = .ok (.invokevirtual index, 3)) (hf : cells + 0 ≤ R.cells ∧ slots + 0 ≤ R.slots)
    (kk : ∀ (H1 : Heap) (locs1 : List Loc), va_P (dC, dI) cls_all (gW L ad km T') H1 → va_D A (gW L ad km T') → va_S A s.heap H1 locs1 → W p l e R s m args below meth c H1 locs1 cells slots Q (F0 m (pc + 3) ls (.int r :: rest))) : W p l e R s m args below meth c H locs cells slots Q (F0 m pc ls st0) := by
  refine va_calli (va_runV (As := As) (rest := rest) S (hM H.size) cw ⟨fbG, va_recv hK hP hc (gW_o ho), fun U hU hW2 => ⟨rfl, gw_give hS hA hP hK hD hnw henv rfl U hU hW2⟩⟩ rfl hn hsize hst (lv_room hW) hdg hf) hS (fun q _ h => gA_free hD hS hA q h) (gA_free hD hS hA) (fun z u t H1 locs1 ht hvm hz hB hz1 hk1 hS1 => ?_)
  subst hz
  obtain ⟨a1, a2⟩ := gw_back hD hS hA ht hB
  exact kk H1 locs1 a1 a2 hS1
theorem gcV_l (S : CallFix p m c cc nL s args Ts own) (hM : GMl l dC dI L ad km ea ev y ws rm (.ref (ad o) :: As) T rl T') (cw : CallW R s args own C index y bytes mL ret ws rm 0 0 n) (hK : va_K (dC, dI) cls_all (gT L km) s) (hP : va_P (dC, dI) cls_all (gW L ad km T) H) (hD : va_D A (gW L ad km T)) (hS : va_S A s.heap H locs) (hA : ∀ q, s.heap.size ≤ q → A q) (hnw : nw_all s) (henv : env0 ea ev A s s.heap) (ho : o < gO L) (hc : cls_all[gci L o]? = some (C, FT, N)) (hn : As.length = n) (hsize : ls.size = nL) (hst : st0 = As.reverse ++ .ref (ad o) :: rest) (hW : (rest.map fun v => v.category).sum ≤ 8) (hdg : decode cc pc = .ok (.invokevirtual index, 3)) (hf : cells + 0 ≤ R.cells ∧ slots + 0 ≤ R.slots)
    (kk : ∀ (H1 : Heap) (locs1 : List Loc), va_P (dC, dI) cls_all (gW L ad km T') H1 → va_D A (gW L ad km T') → va_S A s.heap H1 locs1 → W p l e R s m args below meth c H1 locs1 cells slots Q (F0 m (pc + 3) ls (.long rl :: rest))) : W p l e R s m args below meth c H locs cells slots Q (F0 m pc ls st0) := by
  refine va_calll (va_runV (As := As) (rest := rest) S (hM H.size) cw ⟨fbG, va_recv hK hP hc (gW_o ho), fun U hU hW2 => ⟨rfl, gw_give hS hA hP hK hD hnw henv rfl U hU hW2⟩⟩ rfl hn hsize hst (lv_room hW) hdg hf) hS (fun q _ h => gA_free hD hS hA q h) (gA_free hD hS hA) (fun z u t H1 locs1 ht hvm hz hB hz1 hk1 hS1 => ?_)
  subst hz
  obtain ⟨a1, a2⟩ := gw_back hD hS hA ht hB
  exact kk H1 locs1 a1 a2 hS1
theorem gcV_v (S : CallFix p m c cc nL s args Ts own) (hM : GMv l dC dI L ad km ea ev y ws rm (.ref (ad o) :: As) T T') (cw : CallW R s args own C index y bytes mL ret ws rm 0 0 n) (hK : va_K (dC, dI) cls_all (gT L km) s) (hP : va_P (dC, dI) cls_all (gW L ad km T) H) (hD : va_D A (gW L ad km T)) (hS : va_S A s.heap H locs) (hA : ∀ q, s.heap.size ≤ q → A q) (hnw : nw_all s) (henv : env0 ea ev A s s.heap) (ho : o < gO L) (hc : cls_all[gci L o]? = some (C, FT, N)) (hn : As.length = n) (hsize : ls.size = nL) (hst : st0 = As.reverse ++ .ref (ad o) :: rest) (hW : (rest.map fun v => v.category).sum ≤ 8) (hdg : decode cc pc = .ok (.invokevirtual index, 3)) (hf : cells + 0 ≤ R.cells ∧ slots + 0 ≤ R.slots)
    (kk : ∀ (H1 : Heap) (locs1 : List Loc), va_P (dC, dI) cls_all (gW L ad km T') H1 → va_D A (gW L ad km T') → va_S A s.heap H1 locs1 → W p l e R s m args below meth c H1 locs1 cells slots Q (F0 m (pc + 3) ls rest)) : W p l e R s m args below meth c H locs cells slots Q (F0 m pc ls st0) := by
  refine va_callv (va_runV (As := As) (rest := rest) S (hM H.size) cw ⟨fbG, va_recv hK hP hc (gW_o ho), fun U hU hW2 => ⟨rfl, gw_give hS hA hP hK hD hnw henv rfl U hU hW2⟩⟩ rfl hn hsize hst (lv_room hW) hdg hf) hS (fun q _ h => gA_free hD hS hA q h) (gA_free hD hS hA) (fun u t H1 locs1 ht hvm _ hB hz1 hk1 hS1 => ?_)
  obtain ⟨a1, a2⟩ := gw_back hD hS hA ht hB
  exact kk H1 locs1 a1 a2 hS1
theorem gcS_i (S : CallFix p m c cc nL s args Ts own) (hM : GMi l dC dI L ad km ea ev y ws rm As T r T') (cw : CallB R s args own index y bytes mL ret ws rm 0 0 n ∧ (Cond.static y).before args s = true) (hK : va_K (dC, dI) cls_all (gT L km) s) (hP : va_P (dC, dI) cls_all (gW L ad km T) H) (hD : va_D A (gW L ad km T)) (hS : va_S A s.heap H locs) (hA : ∀ q, s.heap.size ≤ q → A q) (hnw : nw_all s) (henv : env0 ea ev A s s.heap) (hn : As.length = n) (hsize : ls.size = nL) (hst : st0 = As.reverse ++ rest) (hW : (rest.map fun v => v.category).sum ≤ 8) (hdg : decode cc pc = .ok (.invokestatic index, 3)) (hf : cells + 0 ≤ R.cells ∧ slots + 0 ≤ R.slots)
    (kk : ∀ (H1 : Heap) (locs1 : List Loc), va_P (dC, dI) cls_all (gW L ad km T') H1 → va_D A (gW L ad km T') → va_S A s.heap H1 locs1 → W p l e R s m args below meth c H1 locs1 cells slots Q (F0 m (pc + 3) ls (.int r :: rest))) : W p l e R s m args below meth c H locs cells slots Q (F0 m pc ls st0) := by
  refine va_calli (va_runS (As := As) (rest := rest) S (hM H.size) cw ⟨fbG, fun U hU hW2 => ⟨rfl, gw_give hS hA hP hK hD hnw henv rfl U hU hW2⟩⟩ rfl hn hsize hst (lv_room hW) hdg hf) hS (fun q _ h => gA_free hD hS hA q h) (gA_free hD hS hA) (fun z u t H1 locs1 ht hvm hz hB hz1 hk1 hS1 => ?_)
  subst hz
  obtain ⟨a1, a2⟩ := gw_back hD hS hA ht hB
  exact kk H1 locs1 a1 a2 hS1
theorem gcS_l (S : CallFix p m c cc nL s args Ts own) (hM : GMl l dC dI L ad km ea ev y ws rm As T rl T') (cw : CallB R s args own index y bytes mL ret ws rm 0 0 n ∧ (Cond.static y).before args s = true) (hK : va_K (dC, dI) cls_all (gT L km) s) (hP : va_P (dC, dI) cls_all (gW L ad km T) H) (hD : va_D A (gW L ad km T)) (hS : va_S A s.heap H locs) (hA : ∀ q, s.heap.size ≤ q → A q) (hnw : nw_all s) (henv : env0 ea ev A s s.heap) (hn : As.length = n) (hsize : ls.size = nL) (hst : st0 = As.reverse ++ rest) (hW : (rest.map fun v => v.category).sum ≤ 8) (hdg : decode cc pc = .ok (.invokestatic index, 3)) (hf : cells + 0 ≤ R.cells ∧ slots + 0 ≤ R.slots)
    (kk : ∀ (H1 : Heap) (locs1 : List Loc), va_P (dC, dI) cls_all (gW L ad km T') H1 → va_D A (gW L ad km T') → va_S A s.heap H1 locs1 → W p l e R s m args below meth c H1 locs1 cells slots Q (F0 m (pc + 3) ls (.long rl :: rest))) : W p l e R s m args below meth c H locs cells slots Q (F0 m pc ls st0) := by
  refine va_calll (va_runS (As := As) (rest := rest) S (hM H.size) cw ⟨fbG, fun U hU hW2 => ⟨rfl, gw_give hS hA hP hK hD hnw henv rfl U hU hW2⟩⟩ rfl hn hsize hst (lv_room hW) hdg hf) hS (fun q _ h => gA_free hD hS hA q h) (gA_free hD hS hA) (fun z u t H1 locs1 ht hvm hz hB hz1 hk1 hS1 => ?_)
  subst hz
  obtain ⟨a1, a2⟩ := gw_back hD hS hA ht hB
  exact kk H1 locs1 a1 a2 hS1
end GW
/-- behind a call of a contract over some of the cells -/
theorem gjoin {D : va_G} {cl : List vw_C} {A : Nat → Prop} {ws ws' wc : va_W} {H H1 : Heap} (I : Nat → Prop) (hP : va_P D cl ws H) (hD : va_D A ws) (h1 : ∀ (j : Nat) (q : Nat × va_E), ws'[j]? = some q → ¬ I j → ws[j]? = some q) (h2 : ∀ (j : Nat) (q : Nat × va_E), ws'[j]? = some q → I j → va_at D cl q H1 ∧ ∃ q0 : Nat × va_E, ws[j]? = some q0 ∧ q0.1 = q.1)
    (hC : ∀ q, va_A wc H.size q → (∃ (j : Nat) (q0 : Nat × va_E), I j ∧ ws[j]? = some q0 ∧ q0.1 = q) ∨ H.size ≤ q) (hk : ∀ q : Nat, q < H.size → ¬ va_A wc H.size q → H1[q]? = H[q]?) : va_P D cl ws' H1 ∧ va_D A ws' := by
  have same : ∀ (j : Nat) (q : Nat × va_E), ws'[j]? = some q → ∃ q0 : Nat × va_E, ws[j]? = some q0 ∧ q0.1 = q.1 := by
    intro j q hq
    by_cases hi : I j
    · exact (h2 j q hq hi).2
    · exact ⟨q, h1 j q hq hi, rfl⟩
  refine ⟨fun j q hq => ?_, fun i j x y hx hy hxy => ?_, fun j q hq => ?_⟩
  · by_cases hi : I j
    · exact (h2 j q hq hi).1
    · have h0 := h1 j q hq hi
      have hlt := (hP j q h0).lt
      refine (hP j q h0).kept (hk q.1 hlt (fun z => ?_))
      rcases hC q.1 z with ⟨j', q0, hj', hq0, e0⟩ | h
      · exact hi (by rw [hD.1 j j' q q0 h0 hq0 e0.symm]; exact hj')
      · omega
  · obtain ⟨x0, a1, a2⟩ := same i x hx
    obtain ⟨y0, b1, b2⟩ := same j y hy
    exact hD.1 i j x0 y0 a1 b1 (by rw [a2, b2, hxy])
  · obtain ⟨x0, a1, a2⟩ := same j q hq
    rw [← a2]
    exact hD.2 j x0 a1
theorem nI_back {x : Int32} (h : 0 ≤ x.toInt) : nI x.toNatClampNeg = x := by
  refine Int32.toInt_inj.mp ?_
  have h1 := x.toInt_lt
  have h2 : x.toNatClampNeg = x.toInt.toNat := rfl
  rw [nI_toInt (by omega), h2]
  omega
theorem gldcwI {p : Program} {l : Launch} {e : Env} {R : Room} {s : State} {m : MethodId} {args : Array Value} {below : List Frame} {meth : Method} {c : Code} {locs : List Loc} {cells slots : Nat} {T : State} (X : Stand p l e R s m args below meth c T locs cells slots) (hexec : p.tables.exec = Jvm.exec) {own tx : String} {index q : Nat} (hown : s.vm.findClass own = some m.cls) (hZ : vk_R own index tx q s) {g : JFrame} (hg : g.method = m) (hdg : decode c.code g.pc = .ok (.ldc_w index, 3)) :
    ∀ target, Steps p.tables e below (T.setTop { g with pc := g.pc + 3, stack := .ref q :: g.stack }) target → Steps p.tables e below (T.setTop g) target := by
  obtain ⟨k, cf, i, a', hk, hcf, hcp, -, hr, hev⟩ := Cond.stringRef_spec hown hZ.1
  cases hZ.2.symm.trans hev
  obtain ⟨k', hk', he⟩ := X.warmed.alike.2.2 _ _ hk
  have hr' : k'.resolved[index]? = some (some (.string q)) := by
    rcases X.warmed.entry hk hk' index with h | ⟨h, -⟩
    · rw [h]; exact hr
    · rw [hr] at h; cases h
  intro target hrest
  subst hg
  jvm_step X.here [hexec, hdg, ldc_w.wp_string (e := e) (s := T) (f := g) X.here.top hk' (by rw [he]; exact hcf) hcp hr']
  exact hrest
theorem gldcw {p : Program} {l : Launch} {e : Env} {R : Room} {s : State} {m : MethodId} {args : Array Value} {below : List Frame} {meth : Method} {c : Code} {H : Heap} {locs : List Loc} {cells slots : Nat} {Q : State → Prop} {cc : ByteArray} {pc : Nat} {ls : Array Slot} {rest : List Value} (hexec : p.tables.exec = Jvm.exec) (hb : c.code = cc) {own tx : String} {index q : Nat} (hown : s.vm.findClass own = some m.cls) (hZ : vk_R own index tx q s) (hdg : decode cc pc = .ok (.ldc_w index, 3)) (kk : W p l e R s m args below meth c H locs cells slots Q (F0 m (pc + 3) ls (.ref q :: rest))) : W p l e R s m args below meth c H locs cells slots Q (F0 m pc ls rest) := by
  intro T hT X
  obtain ⟨t, a1, b1⟩ := kk T hT X
  exact ⟨t, gldcwI X hexec hown hZ (g := F0 m pc ls rest) rfl (by rw [hb]; exact hdg) t a1, b1⟩
def kM : Nat → Nat := fun g => [2, 0, 0, 0, 0, 0, 1, 0, 0, 0, 0, 0, 2, 2, 2, 2, 2, 2, 2, 2, 0, 2, 2, 2, 2, 2, 2, 2, 2, 2, 2, 2, 2, 2, 2, 2, 2, 0, 2, 2, 2, 2, 2, 2, 2, 0, 2, 2, 2, 0, 2, 2, 2, 2, 2, 2, 2, 2, 2, 2, 2, 2, 0, 0, 0, 0, 2, 2, 2, 2, 2, 0, 2, 2, 2, 0, 0, 0, 2, 2, 2, 0, 0, 0, 0, 2, 0, 0, 0, 0, 0, 0, 0, 2, 0, 0, 2, 2, 2, 2, 0, 0, 0, 0, 0, 0, 0, 0, 0, 0, 2, 2, 2, 2, 2, 2, 2, 2, 2, 2, 2, 2, 2, 0, 2, 2, 2, 2, 2, 0, 0, 0, 0, 2, 2, 2, 2, 0, 2, 2, 2, 2, 2, 0, 2, 2, 2, 2, 2, 2, 0, 2, 2].getD g 0
def rM : Nat → Nat := fun g => [0, 0, 0, 0, 0, 0, 0, 0, 0, 0, 0, 0, 1, 2, 3, 4, 5, 6, 7, 8, 0, 9, 10, 11, 12, 13, 14, 15, 16, 17, 18, 19, 20, 21, 22, 23, 24, 0, 25, 26, 27, 28, 29, 30, 31, 0, 32, 33, 34, 0, 35, 36, 37, 38, 39, 40, 41, 42, 43, 44, 45, 46, 0, 0, 0, 0, 47, 48, 49, 50, 51, 0, 52, 53, 54, 0, 0, 0, 55, 56, 57, 0, 0, 0, 0, 58, 0, 0, 0, 0, 0, 0, 0, 59, 0, 0, 60, 61, 62, 63, 0, 0, 0, 0, 0, 0, 0, 0, 0, 0, 64, 65, 66, 67, 68, 69, 70, 71, 72, 73, 74, 75, 76, 0, 77, 78, 79, 80, 81, 0, 0, 0, 0, 82, 83, 84, 85, 0, 86, 87, 88, 89, 90, 0, 91, 92, 93, 94, 95, 96, 0, 97, 98].getD g 0
def nM : Nat → Nat := fun i => [4000, 24, 24, 24, 24, 72, 72, 24, 24, 220, 220, 220, 220, 24, 24, 24, 72, 72, 24, 24, 144, 144, 24, 24, 24, 4000, 4000, 4000, 4000, 4000, 4000, 4000, 4000, 4000, 4000, 8200, 8200, 8200, 8200, 8200, 8200, 8200, 8200, 8200, 8200, 8200, 8200, 6000, 6000, 6000, 6000, 6000, 12, 12, 12, 20, 20, 20, 40, 8200, 12000, 12000, 12000, 12000, 8200, 8200, 8200, 8200, 41, 41, 41, 820, 820, 820, 820, 492, 1640, 900, 900, 900, 900, 900, 400, 400, 400, 400, 4096, 4096, 4096, 4096, 4096, 4096, 4096, 4096, 4096, 4096, 4096, 100, 300].getD i 0
def jM : Nat → Nat := fun i => [0, 0, 1, 0, 0, 1, 0, 0, 0, 1, 0, 0, 0, 0, 0, 0, 1, 0, 0, 0, 1, 0, 0, 0, 0, 0, 0, 0, 1, 0, 0, 0, 1, 0, 0, 0, 0, 0, 0, 0, 0, 1, 0, 0, 0, 0, 0, 0, 0, 0, 0, 0, 1, 0, 0, 1, 0, 0, 0, 0, 0, 0, 0, 0, 0, 0, 0, 0, 0, 0, 0, 0, 0, 0, 0, 0, 0, 0, 0, 0, 0, 0, 0, 0, 0, 0, 0, 0, 0, 0, 0, 0, 0, 0, 0, 0, 0, 0, 0].getD i 0
def iM : Nat → Nat := fun i => [0, 12, 13, 14, 15, 16, 17, 18, 19, 21, 22, 23, 24, 25, 26, 27, 28, 29, 30, 31, 32, 33, 34, 35, 36, 38, 39, 40, 41, 42, 43, 44, 46, 47, 48, 50, 51, 52, 53, 54, 55, 56, 57, 58, 59, 60, 61, 66, 67, 68, 69, 70, 72, 73, 74, 78, 79, 80, 85, 93, 96, 97, 98, 99, 110, 111, 112, 113, 114, 115, 116, 117, 118, 119, 120, 121, 122, 124, 125, 126, 127, 128, 133, 134, 135, 136, 138, 139, 140, 141, 142, 144, 145, 146, 147, 148, 149, 151, 152].getD i 0
def tM : Nat → FieldType := fun i => [.int, .int, .long, .int, .int, .long, .int, .int, .int, .long, .int, .int, .int, .int, .int, .int, .long, .int, .int, .int, .long, .int, .int, .int, .int, .int, .int, .int, .long, .int, .int, .int, .long, .int, .int, .int, .int, .int, .int, .int, .int, .long, .int, .int, .int, .int, .int, .int, .int, .int, .int, .int, .long, .int, .int, .long, .int, .int, .int, .int, .int, .int, .int, .int, .int, .int, .int, .int, .int, .int, .int, .int, .int, .int, .int, .int, .int, .int, .int, .int, .int, .int, .int, .int, .int, .int, .int, .int, .int, .int, .int, .int, .int, .int, .int, .boolean, .int, .int, .int].getD i .int
def LM : gL := ((1, 99), fun o => [12].getD o 0, fun o => [153].getD o 0, fun o k => [0].getD o 0 + k, kM, rM, nM, jM, iM, tM)
theorem okM : gOk LM := gOk_of (by decide +kernel) (by decide +kernel) (by decide +kernel)
def kH : Nat → Nat := fun g => [2, 0, 0, 0, 3, 3, 3, 3, 3, 3, 3, 2, 2, 2, 2, 2, 2, 2, 2, 0, 4, 0, 2, 2, 2, 0, 2, 0, 2, 2, 2, 2, 2, 2, 2, 2, 2, 2, 2, 2, 2, 2, 2, 2, 2, 2, 2, 2, 2, 2, 2, 0, 2, 0, 0, 3, 3, 3, 0, 0, 0, 0, 2, 1, 3, 3, 3, 0, 0, 2, 2, 2, 0, 2, 2, 0, 0, 1, 3, 3, 3, 3, 3, 3, 3, 3, 3, 3, 3, 3, 3, 3, 3, 3, 3, 3, 3, 3, 3, 2, 0, 2, 0, 2, 0, 0, 0, 0, 0, 0, 2, 0, 2, 0, 2, 2, 2, 0, 0, 0, 0, 0, 0, 2, 2, 2, 2, 2, 0].getD g 0
def rH : Nat → Nat := fun g => [0, 0, 0, 0, 1, 2, 3, 4, 7, 9, 10, 1, 2, 3, 4, 5, 6, 7, 8, 0, 0, 0, 9, 10, 11, 0, 12, 0, 13, 14, 15, 16, 17, 18, 19, 20, 21, 22, 23, 24, 25, 26, 27, 28, 29, 30, 31, 32, 33, 34, 35, 0, 36, 0, 0, 1, 2, 3, 0, 0, 0, 0, 37, 0, 1, 2, 5, 0, 0, 38, 39, 40, 0, 41, 42, 0, 0, 0, 1, 2, 5, 6, 3, 1, 2, 7, 5, 6, 3, 1, 2, 7, 5, 6, 8, 3, 3, 2, 11, 43, 0, 44, 0, 45, 0, 0, 0, 0, 0, 0, 46, 0, 47, 0, 48, 49, 50, 0, 0, 0, 0, 0, 0, 51, 52, 53, 54, 55, 0].getD g 0
def nH : Nat → Nat := fun i => [4000, 4008, 4008, 4008, 4008, 4008, 4008, 4008, 4008, 4001, 4001, 4001, 26, 24, 24, 24, 24, 24, 24, 24, 24, 24, 24, 24, 24, 24, 24, 24, 192, 192, 192, 24, 72, 6032, 6032, 6032, 7, 16384, 20, 20, 21, 12, 12, 23200, 697, 3200, 100, 300, 4096, 4096, 64, 321, 321, 321, 321, 321].getD i 0
def jH : Nat → Nat := fun i => [0, 0, 0, 0, 0, 0, 0, 0, 0, 0, 0, 1, 1, 0, 0, 1, 0, 0, 0, 0, 0, 0, 0, 0, 0, 0, 0, 0, 0, 0, 0, 0, 0, 0, 0, 0, 0, 1, 1, 0, 0, 1, 0, 0, 0, 0, 0, 0, 0, 0, 0, 0, 0, 0, 0, 0].getD i 0
def iH : Nat → Nat := fun i => [0, 11, 12, 13, 14, 15, 16, 17, 18, 22, 23, 24, 26, 28, 29, 30, 31, 32, 33, 34, 35, 36, 37, 38, 39, 40, 41, 42, 43, 44, 45, 46, 47, 48, 49, 50, 52, 62, 69, 70, 71, 73, 74, 99, 101, 103, 110, 112, 114, 115, 116, 123, 124, 125, 126, 127].getD i 0
def tH : Nat → FieldType := fun i => [.char, .int, .int, .int, .int, .int, .int, .int, .int, .int, .int, .long, .long, .int, .int, .long, .int, .int, .int, .int, .int, .int, .int, .int, .int, .int, .int, .int, .int, .int, .int, .int, .int, .int, .int, .int, .int, .long, .long, .int, .int, .long, .int, .int, .int, .int, .int, .int, .int, .boolean, .int, .int, .int, .int, .int, .int].getD i .int
def LH : gL := ((12, 56), fun o => [11, 8, 3, 0, 6, 10, 7, 2, 1, 9, 4, 5].getD o 0, fun o => [11, 16, 21, 7, 8, 2, 14, 5, 6, 7, 18, 14].getD o 0, fun o k => [0, 1, 2, 3, 4, 5, 6, 7, 8, 9, 10, 11, 12, 13, 14, 15, 16, 17, 18, 19, 20, 21, 22, 23, 24, 25, 26, 27, 28, 29, 30, 31, 32, 33, 34, 35, 36, 37, 38, 39, 40, 41, 42, 43, 44, 45, 46, 47, 48, 49, 50, 51, 52, 53, 54, 55, 56, 57, 58, 128, 59, 60, 61, 62, 63, 64, 65, 66, 67, 68, 69, 70, 71, 72, 73, 74, 75, 76, 77, 78, 79, 80, 81, 82, 83, 84, 85, 86, 87, 88, 89, 90, 91, 92, 93, 94, 95, 96, 97, 98, 99, 100, 101, 102, 103, 104, 105, 106, 107, 108, 109, 110, 111, 112, 113, 114, 115, 116, 117, 118, 119, 120, 121, 122, 123, 124, 125, 126, 127].getD ([0, 11, 27, 48, 55, 63, 65, 79, 84, 90, 97, 115].getD o 0 + k) 0, kH, rH, nH, jH, iH, tH)
theorem okH : gOk LH := gOk_of (by decide +kernel) (by decide +kernel) (by decide +kernel)
