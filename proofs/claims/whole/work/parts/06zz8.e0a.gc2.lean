/-! a call on one of two graphs */
-/
section GC2
variable {p : Program} {l : Launch} {e : Env} {R : Room} {s : State} {m : MethodId} {args : Array Value} {below : List Frame} {meth : Method} {c : Code} {H : Heap} {locs : List Loc} {cells slots : Nat} {Q : State → Prop}
variable {cc : ByteArray} {pc : Nat} {ls : Array Slot} {rest st0 : List Value} {dC : Nat → ClassId} {dI : Nat → Nat → Nat} {A : Nat → Prop} {L : gL} {ad ea ev : Nat → Nat} {km : Nat → ClassId} {T T' : gSt} {H0 : Heap}
variable {own ref C : String} {FT : u_T} {N index : Nat} {Ts : List Cond}
variable {y : MethodName} {ws : List Cond} {rm : Room} {As : List Value} {nL mL n o : Nat} {bytes : ByteArray} {ret : Option FieldType} {r : Int32} {rl : Int64}
theorem gcV_i2 {w2 : va_W} (S : CallFix p m c cc nL s args Ts own) (hM : GMi l dC dI L ad km ea ev y ws rm (.ref (ad o) :: As) T r T') (cw : CallW R s args own C index y bytes mL ret ws rm 0 0 n) (hK : va_K (dC, dI) cls_all (gT L km) s) (hP : va_P (dC, dI) cls_all (gW L ad km T) H) (hD : va_D A (gW L ad km T)) (hS : va_S A s.heap H locs) (hA : ∀ q, s.heap.size ≤ q → A q) (hnw : nw_all s) (henv : env0 ea ev A s s.heap) (ho : o < gO L) (hc : cls_all[gci L o]? = some (C, FT, N)) (hn : As.length = n) (hsize : ls.size = nL) (hst : st0 = As.reverse ++ .ref (ad o) :: rest) (hW : (rest.map fun v => v.category).sum ≤ 8) (hdg : decode cc pc = .ok (.invokevirtual index, 3)) (hf : cells + 0 ≤ R.cells ∧ slots + 0 ≤ R.slots) (hP2 : va_P (dC, dI) cls_all w2 H) (hz2 : ∀ (k : Nat) (q : Nat × va_E), w2[k]? = some q → q.1 < H.size) (hx2 : ∀ (i j : Nat) (p q : Nat × va_E), (gW L ad km T)[i]? = some p → w2[j]? = some q → p.1 ≠ q.1)
    (kk : ∀ (H1 : Heap) (locs1 : List Loc), va_P (dC, dI) cls_all (gW L ad km T') H1 → va_D A (gW L ad km T') → va_S A s.heap H1 locs1 → H.size ≤ H1.size → va_P (dC, dI) cls_all w2 H1 → W p l e R s m args below meth c H1 locs1 cells slots Q (F0 m (pc + 3) ls (.int r :: rest))) : W p l e R s m args below meth c H locs cells slots Q (F0 m pc ls st0) := by
  refine va_calli (va_runV (As := As) (rest := rest) S (hM H.size) cw ⟨fbG, va_recv hK hP hc (gW_o ho), fun U hU hW2 => ⟨rfl, gw_give hS hA hP hK hD hnw henv rfl U hU hW2⟩⟩ rfl hn hsize hst (lv_room hW) hdg hf) hS (fun q _ h => gA_free hD hS hA q h) (gA_free hD hS hA) (fun z u t H1 locs1 ht hvm hz hB hz1 hk1 hS1 => ?_)
  subst hz
  obtain ⟨a1, a2⟩ := gw_back hD hS hA ht hB
  exact kk H1 locs1 a1 a2 hS1 hz1 (hP2.kept (fun k q hk => hk1 q.1 (hz2 k q hk) (fun h => by
    rcases h with ⟨i, e, hi⟩ | h
    · exact hx2 i k _ _ hi hk rfl
    · have := hz2 k q hk
      omega)))
end GC2
