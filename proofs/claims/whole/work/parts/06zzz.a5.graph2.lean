/-! a whole row of a graph at once; chars; what the library's own methods do to a row -/
theorem sA_at {T : gSt} {g : Nat} {f : Nat → Int32} : (sA T g f).1 g = f := by simp [sA]
theorem sA_ne {T : gSt} {g g' : Nat} {f : Nat → Int32} (h : g' ≠ g) : (sA T g f).1 g' = T.1 g' := by simp [sA, h]
theorem gv_sA {L : gL} {ad : Nat → Nat} {T : gSt} {g g' : Nat} {f : Nat → Int32} (h : g' ≠ g ∨ gkd L g' = 2) : gv L ad (sA T g f) g' = gv L ad T g' := by
  rcases h with h | h
  · unfold gv sA
    simp only [if_neg h]
  · unfold gv
    rw [h]
    simp
theorem gf_sA {L : gL} {ad : Nat → Nat} {T : gSt} {g o : Nat} {f : Nat → Int32} (h : ∀ k, k < gnf L o → gb L o k ≠ g ∨ gkd L (gb L o k) = 2) : gf L ad (sA T g f) o = gf L ad T o := List.map_congr_left (fun k hk => gv_sA (h k (List.mem_range.mp hk)))
theorem gc_sA {L : gL} {T : gSt} {g i : Nat} {f : Nat → Int32} (h : gid L i ≠ g) : gc L (sA T g f) i = gc L T i := by
  unfold gc sA
  simp only [if_neg h]
theorem gW_sA {L : gL} (ok : gOk L) {ad : Nat → Nat} {km : Nat → ClassId} {T : gSt} {i g : Nat} (hi : i < gA L) (hg : gid L i = g) (hlg : glg L i = 0) (f : Nat → Int32) : (gW L ad km T).set (gO L + i) (ad (gO L + i), .inl (km i, (gln L i, .inl f))) = gW L ad km (sA T g f) := by
  subst hg
  refine gW_ext (by rw [List.length_set, gW_len]) (fun o' h' => ?_) (fun i' h' => ?_)
  · rw [List.getElem?_set, if_neg (by omega), gW_o h', gf_sA (fun k' hk' => ?_)]
    by_cases e : gb L o' k' = gid L i
    · exact Or.inr (by rw [e]; exact ok.1 i hi)
    · exact Or.inl e
  · rw [List.getElem?_set, gW_len]
    by_cases e : i = i'
    · subst e
      rw [if_pos rfl, if_pos (by omega)]
      unfold gc
      rw [if_neg (by omega), sA_at]
    · rw [if_neg (by omega), gW_a h', gc_sA (fun q => e (ok.2.1 i hi i' h' q.symm))]
section GW2
variable {p : Program} {l : Launch} {e : Env} {R : Room} {s : State} {m : MethodId} {args : Array Value} {below : List Frame} {meth : Method} {c : Code} {H : Heap} {locs : List Loc} {cells slots : Nat} {Q : State → Prop}
variable {cc : ByteArray} {pc : Nat} {ls : Array Slot} {rest st0 : List Value} {dC : Nat → ClassId} {dI : Nat → Nat → Nat} {A : Nat → Prop} {L : gL} {ad ea ev : Nat → Nat} {km : Nat → ClassId} {T T' : gSt} {H0 : Heap}
variable {own ref C : String} {FT : u_T} {N index : Nat} {Ts : List Cond}
theorem gw_cast (ok : gOk L) (hx : p.tables.exec = Jvm.exec) (hb : c.code = cc) (hK : va_K (dC, dI) cls_all (gT L km) s) (hP : va_P (dC, dI) cls_all (gW L ad km T) H) (hD : va_D A (gW L ad km T)) (hS : va_S A H0 H locs) (i g n q : Nat) (hi : i < gA L) (hq : gO L + i = q) (hg : gid L i = g) (hn : gln L i = n) (hlg : glg L i = 0) (ht : gtt L i = .char) {x v : Int32} (hv : vp_nar .char v = v) (hin : inb x n) (hdg : decode cc pc = .ok (.castore, 1))
    (kk : ∀ (T1 : gSt), T1 = sI T g x.toNatClampNeg v → ∀ (H1 : Heap) (locs1 : List Loc), va_P (dC, dI) cls_all (gW L ad km T1) H1 → va_D A (gW L ad km T1) → va_S A H0 H1 locs1 → W p l e R s m args below meth c H1 locs1 cells slots Q (F0 m (pc + 1) ls rest)) : W p l e R s m args below meth c H locs cells slots Q (F0 m pc ls (.int v :: .int x :: .ref (ad q) :: rest)) := by
  subst hq
  subst hn
  exact va_cast hx hb hK hP hD hS (gO L + i) i (cA := km i) (f := T.1 g) (by rw [gW_a hi, gc_i hlg hg rfl]) (by rw [gT_a hi, ht]) (vp_in_iff.mpr hin) hdg (fun H1 locs1 a1 a2 a3 => by
    rw [hv, gW_ai ok hi hg hlg] at a1 a2
    exact kk _ rfl H1 locs1 a1 a2 a3)
theorem gw_copy (ok : gOk L) (hx : p.tables.exec = Jvm.exec) (hb : c.code = cc) (hml : c.maxLocals = ls.size) (hT : ∀ w ∈ lw_good, w.before args s = true) (hown : s.vm.findClass own = some m.cls) (hlink : (Cond.methodLink own index arraycopyName).before args s = true) (hnat : (Cond.native arraycopyName).before args s = true) (hstat : (Cond.static arraycopyName).before args s = true) (hK : va_K (dC, dI) cls_all (gT L km) s) (hP : va_P (dC, dI) cls_all (gW L ad km T) H) (hD : va_D A (gW L ad km T)) (hS : va_S A H0 H locs) (i g n q : Nat) (hi : i < gA L) (hq : gO L + i = q) (hg : gid L i = g) (hn : gln L i = n) (hlg : glg L i = 0) (ht : gtt L i = .int) {sp dp k : Int32} (h1 : ¬ sp < 0) (h2 : ¬ dp < 0) (h3 : ¬ k < 0) (h4 : sp.toNatClampNeg + k.toNatClampNeg ≤ n) (h5 : dp.toNatClampNeg + k.toNatClampNeg ≤ n) (hf1 : 1 ≤ R.frames) (hl1 : (rest.map fun v => v.category).sum + (nativeFrameWords "java/lang/System" "arraycopy" 5 + 11) ≤ R.locals) (hdg : decode cc pc = .ok (.invokestatic index, 3))
    (kk : ∀ (T1 : gSt), T1 = sA T g (va_cpy (T.1 g) (T.1 g) sp.toNatClampNeg dp.toNatClampNeg k.toNatClampNeg) → ∀ (H1 : Heap) (locs1 : List Loc), va_P (dC, dI) cls_all (gW L ad km T1) H1 → va_D A (gW L ad km T1) → va_S A H0 H1 locs1 → W p l e R s m args below meth c H1 locs1 cells slots Q (F0 m (pc + 3) ls rest)) : W p l e R s m args below meth c H locs cells slots Q (F0 m pc ls (.int k :: .int dp :: .ref (ad q) :: .int sp :: .ref (ad q) :: rest)) := by
  subst hq
  subst hn
  refine va_copyi hx hb hml hown hlink hnat hstat (hT _ ini_Sys) hK hP hD hS (gO L + i) (gO L + i) i i (c0 := km i) (c1 := km i) (f := T.1 g) (g := T.1 g) (ty := .int) (by rw [gW_a hi, gc_i hlg hg rfl]) (by rw [gW_a hi, gc_i hlg hg rfl]) (by rw [gT_a hi, ht]) (by rw [gT_a hi, ht]) rfl h1 h2 h3 h4 h5 (fun _ _ => rfl) hf1 hl1 hdg (fun H1 locs1 a1 a2 a3 => ?_)
  rw [gW_sA ok hi hg hlg] at a1 a2
  exact kk _ rfl H1 locs1 a1 a2 a3
variable {y : MethodName} {ws : List Cond} {rm : Room} {As : List Value} {nL mL n o : Nat} {bytes : ByteArray} {ret : Option FieldType}
theorem gcS_v (S : CallFix p m c cc nL s args Ts own) (hM : GMv l dC dI L ad km ea ev y ws rm As T T') (cw : CallB R s args own index y bytes mL ret ws rm 0 0 n ∧ (Cond.static y).before args s = true) (hK : va_K (dC, dI) cls_all (gT L km) s) (hP : va_P (dC, dI) cls_all (gW L ad km T) H) (hD : va_D A (gW L ad km T)) (hS : va_S A s.heap H locs) (hA : ∀ q, s.heap.size ≤ q → A q) (hnw : nw_all s) (henv : env0 ea ev A s s.heap) (hn : As.length = n) (hsize : ls.size = nL) (hst : st0 = As.reverse ++ rest) (hW : (rest.map fun v => v.category).sum ≤ 8) (hdg : decode cc pc = .ok (.invokestatic index, 3)) (hf : cells + 0 ≤ R.cells ∧ slots + 0 ≤ R.slots)
    (kk : ∀ (T1 : gSt), T1 = T' → ∀ (H1 : Heap) (locs1 : List Loc), va_P (dC, dI) cls_all (gW L ad km T1) H1 → va_D A (gW L ad km T1) → va_S A s.heap H1 locs1 → W p l e R s m args below meth c H1 locs1 cells slots Q (F0 m (pc + 3) ls rest)) : W p l e R s m args below meth c H locs cells slots Q (F0 m pc ls st0) := by
  refine va_callv (va_runS (As := As) (rest := rest) S (hM H.size) cw ⟨fbG, fun U hU hW2 => ⟨rfl, gw_give hS hA hP hK hD hnw henv rfl U hU hW2⟩⟩ rfl hn hsize hst (lv_room hW) hdg hf) hS (fun q _ h => gA_free hD hS hA q h) (gA_free hD hS hA) (fun u t H1 locs1 ht hvm _ hB hz1 hk1 hS1 => ?_)
  obtain ⟨a1, a2⟩ := gw_back hD hS hA ht hB
  exact kk _ rfl H1 locs1 a1 a2 hS1
end GW2
theorem gW_addr {L : gL} {ad : Nat → Nat} {km : Nat → ClassId} {T T' : gSt} {j : Nat} {q q' : Nat × va_E} (h : (gW L ad km T)[j]? = some q) (h' : (gW L ad km T')[j]? = some q') : q.1 = q'.1 := by
  by_cases hj : j < gO L
  · rw [gW_o hj] at h h'
    cases h
    cases h'
    rfl
  · by_cases hi : j - gO L < gA L
    · have e : j = gO L + (j - gO L) := by omega
      rw [e] at h h'
      rw [gW_a hi] at h h'
      cases h
      cases h'
      rfl
    · rw [List.getElem?_eq_none (by rw [gW_len]; omega)] at h
      cases h
/-- a contract over the cells at some places of a graph, said over the graph -/
theorem glift_v {l : Launch} {dC : Nat → ClassId} {dI : Nat → Nat → Nat} {L : gL} {ad : Nat → Nat} {km : Nat → ClassId} {ea ev : Nat → Nat} {y : MethodName} {ws : List Cond} {rm rm' : Room} {As : List Value} {T T' : gSt} {sz : Nat} {wc : va_W} {tys : List (ClassId × FieldType)} {B : State → Prop} (is ts : List Nat) (hC : ∀ k : Nat, wc[k]? = (is[k]?).bind (fun i => (gW L ad km T)[i]?)) (hnd : va_nd is = true) (hK : ∀ k : Nat, tys[k]? = (ts[k]?).bind (fun i => (gT L km)[i]?)) (hne : ∀ j : Nat, j ∉ is → (gW L ad km T')[j]? = (gW L ad km T)[j]?)
    (h : Met l y ws rm (va_Pc As (fun U => U.heap.size = sz ∧ va_P (dC, dI) cls_all wc U.heap ∧ va_K (dC, dI) cls_all tys U ∧ va_D (fun _ => True) wc ∧ env0 ea ev (va_A wc sz) U U.heap)) (va_Qv (fun (_ : Unit) => True) (fun _ t => B t) (va_A wc sz)) 0 0 (va_A wc sz)) (hr : rm.frames ≤ rm'.frames ∧ rm.locals ≤ rm'.locals ∧ rm.cells ≤ rm'.cells ∧ rm.slots ≤ rm'.slots)
    (hB : ∀ t : State, B t → ∀ (k i : Nat) (q : Nat × va_E), is[k]? = some i → (gW L ad km T')[i]? = some q → va_at (dC, dI) cls_all q t.heap) : Met l y ws rm' (va_Pc As (gPre dC dI L ad km ea ev T sz)) (va_Qv (fun (_ : Unit) => True) (fun _ t => gPost dC dI L ad km T' (va_A (gW L ad km T) sz) t) (va_A (gW L ad km T) sz)) 0 0 (va_A (gW L ad km T) sz) := by
  have hin : ∀ (k : Nat) (q : Nat × va_E), wc[k]? = some q → ∃ i, is[k]? = some i ∧ (gW L ad km T)[i]? = some q := by
    intro k q hk
    rw [hC k] at hk
    cases hi : is[k]? with
    | none => rw [hi] at hk; cases hk
    | some i => rw [hi] at hk; exact ⟨i, rfl, hk⟩
  have hsub : ∀ q, va_A wc sz q → va_A (gW L ad km T) sz q := by
    intro q hq
    rcases hq with ⟨k, e, hk⟩ | hq
    · obtain ⟨i, -, hi⟩ := hin k _ hk
      exact Or.inl ⟨i, e, hi⟩
    · exact Or.inr hq
  refine met_lift h hr (fun a s q => ?_) (fun a s o t hp hv hq => ?_) hsub
  · obtain ⟨q0, q1, qP, qK, qD, qn, qe⟩ := q
    refine ⟨q0, q1, fun k x hk => ?_, ⟨qK.1, fun k x hk => ?_⟩, ⟨fun i j x z hx hz hxz => ?_, fun _ _ _ => trivial⟩, env0.less qe hsub⟩
    · obtain ⟨i, -, hi⟩ := hin k x hk
      exact qP i x hi
    · rw [hK k] at hk
      cases hi : ts[k]? with
      | none => rw [hi] at hk; cases hk
      | some i => rw [hi] at hk; exact qK.2 i x hk
    · obtain ⟨i1, a1, b1⟩ := hin i x hx
      obtain ⟨j1, a2, b2⟩ := hin j z hz
      have e := qD.1 i1 j1 x z b1 b2 hxz
      subst e
      exact va_nd_inj is hnd i j i1 a1 a2
  · obtain ⟨q0, q1, qP, qK, qD, qn, qe⟩ := hp
    obtain ⟨⟨u, ho, -, hb⟩, hF⟩ := hq
    subst q1
    obtain ⟨r1, r2⟩ := gjoin (A := va_A (gW L ad km T) s.heap.size) (ws' := gW L ad km T') (wc := wc) (H1 := t.heap) (fun j => j ∈ is) qP qD.self (fun j x hx hn => by rw [hne j hn] at hx; exact hx) (fun j x hx hj => by
        obtain ⟨k, hk⟩ := List.getElem?_of_mem hj
        refine ⟨hB t hb k j x hk hx, ?_⟩
        have hlt : j < (gW L ad km T).length := by rw [gW_len, ← gW_len (ad := ad) (km := km) (T := T')]; exact (List.getElem?_eq_some_iff.mp hx).1
        exact ⟨_, List.getElem?_eq_getElem hlt, gW_addr (List.getElem?_eq_getElem hlt) hx⟩) (fun q hq => by
        rcases hq with ⟨k, e, hk⟩ | hq
        · obtain ⟨i, a1, b1⟩ := hin k _ hk
          exact Or.inl ⟨i, _, List.mem_of_getElem? a1, b1, rfl⟩
        · exact Or.inr hq) hF.2
    exact ⟨⟨(), ho, trivial, r1, va_K.moved hv qK, r2⟩, hF.1, fun q h1 h2 => hF.2 q h1 (fun h => h2 (hsub q h))⟩
theorem met_env {l : Launch} {y : MethodName} {ws : List Cond} {rm : Room} {As : List Value} {D : va_G} {cl : List vw_C} {wc : va_W} {tys : List (ClassId × FieldType)} {sz mc ms : Nat} {ea ev : Nat → Nat} {A : Nat → Prop} {Qc : Array Value → State → Outcome → State → Prop} {fr : Addr → Prop} (h : Met l y ws rm (va_Pc As (fun U => U.heap.size = sz ∧ va_P D cl wc U.heap ∧ va_K D cl tys U ∧ va_D (fun _ => True) wc)) Qc mc ms fr) : Met l y ws rm (va_Pc As (fun U => U.heap.size = sz ∧ va_P D cl wc U.heap ∧ va_K D cl tys U ∧ va_D (fun _ => True) wc ∧ env0 ea ev A U U.heap)) Qc mc ms fr :=
  met_lift h ⟨Nat.le_refl _, Nat.le_refl _, Nat.le_refl _, Nat.le_refl _⟩ (fun a s q => ⟨q.1, q.2.1, q.2.2.1, q.2.2.2.1, q.2.2.2.2.1⟩) (fun _ _ _ _ _ _ q => q) (fun _ q => q)
theorem gc_row {L : gL} {T : gSt} {i : Nat} {f : Nat → Int32} (hlg : glg L i = 0) : gc L (sA T (gid L i) f) i = (gln L i, .inl f) := by
  unfold gc
  rw [if_neg (by omega), sA_at]
theorem lift_fill {L : gL} (ok : gOk L) (l : Launch) (dC : Nat → ClassId) (dI : Nat → Nat → Nat) (ea ev ad : Nat → Nat) (km : Nat → ClassId) (d : Nat) (T : gSt) (i g n q : Nat) (hi : i < gA L) (hq : gO L + i = q) (hg : gid L i = g) (hn : gln L i = n) (hlg : glg L i = 0) (ht : gtt L i = .int) (hn2 : n < 2 ^ 31) (v : Int32) : GMv l dC dI L ad km ea ev y_Arr_fill w_Arr_fill (rmD d) [.ref (ad q), .int v] T (sA T g (fillF (T.1 g) v n)) := by
  subst hq
  subst hg
  subst hn
  intro sz
  refine glift_v (wc := [ic (ad (gO L + i)) (km i) (gln L i) (T.1 (gid L i))]) (tys := [(km i, .int)]) [gO L + i] [i] (fun k => ?_) rfl (fun k => ?_) (fun j hj => ?_) (met_env (c_Arr_fill l dC dI sz (ad (gO L + i)) (km i) (T.1 (gid L i)) v (gln L i) hn2)) ⟨by show 0 ≤ d + 10; omega, by show 0 ≤ 100 * d + 1000; omega, Nat.le_refl _, Nat.le_refl _⟩ (fun t hb k i' x hk hx => ?_)
  · match k with
    | 0 => exact ((gW_a hi).trans (by rw [gc_i hlg rfl rfl]; rfl)).symm
    | k + 1 => rfl
  · match k with
    | 0 => exact ((gT_a hi).trans (by rw [ht]; rfl)).symm
    | k + 1 => rfl
  · rw [← gW_sA ok hi rfl hlg, List.getElem?_set_ne (fun e => hj (by rw [e]; exact List.mem_singleton.mpr rfl))]
  · match k, hk with
    | 0, hk =>
      cases hk
      rw [gW_a hi, gc_row hlg] at hx
      cases hx
      obtain ⟨f', e, hP, -⟩ := hb
      subst e
      exact hP 0 _ rfl
theorem cp_ok {k : Int32} (h : inb k 100) : ¬ k < 0 ∧ (1 : Int32).toNatClampNeg + k.toNatClampNeg ≤ 100 ∧ (0 : Int32).toNatClampNeg + k.toNatClampNeg ≤ 100 := by
  have e : k.toNatClampNeg = k.toInt.toNat := rfl
  have e1 : (1 : Int32).toNatClampNeg = 1 := by decide
  have e0 : (0 : Int32).toNatClampNeg = 0 := by decide
  refine ⟨?_, ?_, ?_⟩
  · simp only [i_lt, Int32.reduceToInt]
    omega
  · omega
  · omega
