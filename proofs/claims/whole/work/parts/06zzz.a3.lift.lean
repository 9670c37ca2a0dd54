/-! contracts over some cells, said over the whole graph -/
theorem room_mono {s : State} {pl : Platform} {r r' : Room} (hf : r.frames ≤ r'.frames) (hl : r.locals ≤ r'.locals) (hc : r.cells ≤ r'.cells) (hs : r.slots ≤ r'.slots) (h : s.hasRoom pl r' = true) : s.hasRoom pl r = true := by
  simp only [State.hasRoom, Bool.and_eq_true, decide_eq_true_eq] at h ⊢
  obtain ⟨⟨⟨⟨y, a, b, c, d, e⟩, f⟩, g⟩, i⟩ := h
  exact ⟨⟨⟨⟨by omega, by omega, by omega, by omega, by omega, e⟩, by omega⟩, by omega⟩, i⟩
theorem met_lift {l : Launch} {y : MethodName} {ws : List Cond} {rm rm' : Room} {Pc Pc' : Array Value → State → Prop} {Qc Qc' : Array Value → State → Outcome → State → Prop} {mc ms : Nat} {free free' : Addr → Prop} (h : Met l y ws rm Pc Qc mc ms free) (hr : rm.frames ≤ rm'.frames ∧ rm.locals ≤ rm'.locals ∧ rm.cells ≤ rm'.cells ∧ rm.slots ≤ rm'.slots) (hP : ∀ a s, Pc' a s → Pc a s) (hQ : ∀ a s o t, Pc' a s → s.vm.Alike t.vm → Qc a s o t → Qc' a s o t) (hfr : ∀ q, free q → free' q) : Met l y ws rm' Pc' Qc' mc ms free' := by
  intro p e ha hcs hk s m args below hf happ hp hK
  obtain ⟨a1, a2, a3, a4, a5, a6, a7, a8⟩ := (Spec.appliesLoose_iff hf).mp happ
  obtain ⟨n, o, h1, h2, h3, h4, L, h5, h6⟩ := h p e ha hcs hk s m args below hf ((Spec.appliesLoose_iff hf).mpr ⟨a1, a2, a3, a4, a5, a6, room_mono hr.1 hr.2.1 hr.2.2.1 hr.2.2.2 a7, a8⟩) (hP _ _ hp) hK
  exact ⟨n, o, h1, h2, h3, hQ _ _ _ _ hp h5.2.1.alike h4, L, h5, fun q hq => hfr _ (h6 q hq)⟩
theorem lift_Si {l : Launch} {dC : Nat → ClassId} {dI : Nat → Nat → Nat} {L : gL} {ad : Nat → Nat} {km : Nat → ClassId} {ea ev : Nat → Nat} {y : MethodName} {ws : List Cond} {rm rm' : Room} {As : List Value} {B : State → Prop} {T : gSt} {r : Int32} (h : Met l y ws rm (va_Pc As B) (vp_Si (fun z => z = r)) 0 0 (fun _ => False)) (hr : rm.frames ≤ rm'.frames ∧ rm.locals ≤ rm'.locals ∧ rm.cells ≤ rm'.cells ∧ rm.slots ≤ rm'.slots) (hB : ∀ sz U, gPre dC dI L ad km ea ev T sz U → B U) : GMi l dC dI L ad km ea ev y ws rm' As T r T := by
  intro sz
  refine met_lift h hr (fun a s q => ⟨q.1, hB sz s q.2⟩) (fun a s o t hp hv hq => ?_) (fun q h => h.elim)
  obtain ⟨z, ho, hz, hh⟩ := hq
  obtain ⟨-, h1, h2, h3, h4, -⟩ := hp
  exact ⟨⟨z, (), ho, hz, by rw [hh]; exact h2, va_K.moved hv h3, h4.self⟩, Nat.le_of_eq (by rw [hh]), fun q _ _ => by rw [hh]⟩
theorem lift_Sl {l : Launch} {dC : Nat → ClassId} {dI : Nat → Nat → Nat} {L : gL} {ad : Nat → Nat} {km : Nat → ClassId} {ea ev : Nat → Nat} {y : MethodName} {ws : List Cond} {rm rm' : Room} {As : List Value} {B : State → Prop} {T : gSt} {r : Int64} (h : Met l y ws rm (va_Pc As B) (vp_Sl (fun z => z = r)) 0 0 (fun _ => False)) (hr : rm.frames ≤ rm'.frames ∧ rm.locals ≤ rm'.locals ∧ rm.cells ≤ rm'.cells ∧ rm.slots ≤ rm'.slots) (hB : ∀ sz U, gPre dC dI L ad km ea ev T sz U → B U) : GMl l dC dI L ad km ea ev y ws rm' As T r T := by
  intro sz
  refine met_lift h hr (fun a s q => ⟨q.1, hB sz s q.2⟩) (fun a s o t hp hv hq => ?_) (fun q h => h.elim)
  obtain ⟨z, ho, hz, hh⟩ := hq
  obtain ⟨-, h1, h2, h3, h4, -⟩ := hp
  exact ⟨⟨z, (), ho, hz, by rw [hh]; exact h2, va_K.moved hv h3, h4.self⟩, Nat.le_of_eq (by rw [hh]), fun q _ _ => by rw [hh]⟩
theorem env0.less {ad av : Nat → Nat} {A B : Nat → Prop} {s : State} (h : env0 ad av A s s.heap) (hAB : ∀ q, B q → A q) : env0 ad av B s s.heap := env0.hand h (va_S.rf) rfl (State.WarmedH.refl s) hAB
theorem va_K.none {D : va_G} {cl : List vw_C} {tys : List (ClassId × FieldType)} {U : State} (h : va_K D cl tys U) : va_K D cl [] U := ⟨h.1, fun k q hk => by cases hk⟩
/-! the reference's next token, over its whole state -/
theorem gfM_at {ad : Nat → Nat} {T : gSt} {j : Nat} (h : j < 153) : (gf LM ad T 0)[j]? = some (gv LM ad T j) := by
  rw [gf_k (show j < gnf LM 0 from h)]
  rw [show gb LM 0 j = j from Nat.zero_add j]
theorem gfM_eq {ad : Nat → Nat} {T : gSt} {fs : List Value} (hl : fs.length = 153) (h : ∀ j, j < 153 → fs[j]? = some (gv LM ad T j)) : fs = gf LM ad T 0 := by
  refine List.ext_getElem? (fun j => ?_)
  by_cases hj : j < 153
  · rw [h j hj, gfM_at hj]
  · rw [List.getElem?_eq_none (by omega), List.getElem?_eq_none (by rw [gf_len]; exact Nat.le_of_not_lt hj)]
theorem gv_adv {ad : Nat → Nat} {T : gSt} {j : Nat} (h3 : j ≠ 3) (h2 : j ≠ 2) (h4 : j ≠ 4) (h6 : j ≠ 6) (h5 : j ≠ 5) : gv LM ad (advS T) j = gv LM ad T j := by
  unfold advS
  rw [gv_sI (Or.inl h5), gv_sJ (Or.inl h6), gv_sI (Or.inl h4), gv_sI (Or.inl h2), gv_sI (Or.inl h3)]
theorem gc_adv {T : gSt} {i : Nat} (h : i < 99) : gc LM (advS T) i = gc LM T i := by
  have hk := okM.1 i h
  unfold advS
  rw [gc_sI (fun q => by rw [q] at hk; revert hk; decide), gc_sJ (fun q => by rw [q] at hk; revert hk; decide), gc_sI (fun q => by rw [q] at hk; revert hk; decide), gc_sI (fun q => by rw [q] at hk; revert hk; decide), gc_sI (fun q => by rw [q] at hk; revert hk; decide)]
set_option maxHeartbeats 2000000 in
theorem lift_adv (l : Launch) (dC : Nat → ClassId) (dI : Nat → Nat → Nat) (ea ev ad : Nat → Nat) (km : Nat → ClassId) (d : Nat) (T : gSt) (h : advOk T) : GMv l dC dI LM ad km ea ev y_Model_advance w_Model_advance (rmD d) [.ref (ad 0)] T (advS T) := by
  intro sz
  obtain ⟨k1, k2, k3⟩ := h
  have ea4 : nI (adA T) = T.1 4 0 := nI_back k1
  have ea1 : nI (adZ T) = T.1 1 0 := nI_back (by omega)
  have hz : adZ T ≤ 4000 := by have : adZ T = (T.1 1 0).toInt.toNat := rfl; omega
  have ha : adA T ≤ adZ T := by have h1 : adZ T = (T.1 1 0).toInt.toNat := rfl; have h2 : adA T = (T.1 4 0).toInt.toNat := rfl; omega
  have w0 : (gW LM ad km T)[0]? = some (oc (ad 0) 12 (gf LM ad T 0)) := gW_o (L := LM) (o := 0) (Nat.le_of_ble_eq_true rfl)
  have w1 : (gW LM ad km T)[1]? = some (ic (ad 1) (km 0) 4000 (T.1 0)) := (gW_a (L := LM) (i := 0) (Nat.le_of_ble_eq_true rfl)).trans (by rw [gc_i (L := LM) (i := 0) (g := 0) (n := 4000) rfl rfl rfl]; rfl)
  have hsub : ∀ q, va_A [oc (ad 0) 12 (gf LM ad T 0), ic (ad 1) (km 0) 4000 (T.1 0)] sz q → va_A (gW LM ad km T) sz q := by
    intro q hq
    rcases hq with ⟨k, e, hk⟩ | hq
    · match k, hk with
      | 0, hk => cases hk; exact Or.inl ⟨0, _, w0⟩
      | 1, hk => cases hk; exact Or.inl ⟨1, _, w1⟩
    · exact Or.inr hq
  refine met_lift (c_Model_advance l dC dI sz ea ev (ad 0) (ad 1) (gf LM ad T 0) (T.2 6 0) (T.1 5 0) (km 0) (T.1 0) (adA T) (adZ T) gf_len (by rw [ea4]; exact (gfM_at (by decide)).trans (congrArg some (gv_i rfl))) (by rw [ea1]; exact (gfM_at (by decide)).trans (congrArg some (gv_i rfl))) ((gfM_at (by decide)).trans (congrArg some (gv_a rfl))) ((gfM_at (by decide)).trans (congrArg some (gv_l rfl))) ((gfM_at (by decide)).trans (congrArg some (gv_i rfl))) ha hz) ⟨by show 6 ≤ d + 10; omega, by show 136 ≤ 100 * d + 1000; omega, Nat.le_refl _, Nat.le_refl _⟩ (fun a s q => ?_) (fun a s o t hp hv hq => ?_) hsub
  · obtain ⟨q0, q1, qP, qK, qD, qn, qe⟩ := q
    refine ⟨q0, q1, ?_, ⟨qK.1, ?_⟩, ?_, env0.less qe hsub⟩
    · intro k x hk
      match k, hk with
      | 0, hk => cases hk; exact qP 0 _ w0
      | 1, hk => cases hk; exact qP 1 _ w1
    · intro k x hk
      match k, hk with
      | 0, hk => cases hk; exact qK.2 0 _ (gT_a (L := LM) (i := 0) (Nat.le_of_ble_eq_true rfl))
    · refine ⟨fun i j x y hx hy hxy => ?_, fun _ _ _ => trivial⟩
      match i, j, hx, hy with
      | 0, 0, _, _ => rfl
      | 1, 1, _, _ => rfl
      | 0, 1, hx, hy => cases hx; cases hy; exact absurd (qD.1 0 1 _ _ w0 w1 hxy) (by decide)
      | 1, 0, hx, hy => cases hx; cases hy; exact absurd (qD.1 1 0 _ _ w1 w0 hxy) (by decide)
  · obtain ⟨q0, q1, qP, qK, qD, qn, qe⟩ := hp
    obtain ⟨⟨u, ho, -, fs', ⟨f1, f2, f3, f4, f5, f6, f7⟩, g1, -, g2⟩, hF⟩ := hq
    have hfs : fs' = gf LM ad (advS T) 0 := by
      refine gfM_eq f1 (fun j hj => ?_)
      by_cases c3 : j = 3
      · subst c3; rw [f3, gv_i rfl]; rfl
      by_cases c2 : j = 2
      · subst c2; rw [f4, gv_i rfl]; rfl
      by_cases c4 : j = 4
      · subst c4; rw [f5, gv_i rfl]; rfl
      by_cases c6 : j = 6
      · subst c6; rw [f6, gv_l rfl]; rfl
      by_cases c5 : j = 5
      · subst c5; rw [f7, gv_i rfl]; rfl
      rw [f2 j c3 c2 c4 c6 c5, gfM_at hj, gv_adv c3 c2 c4 c6 c5]
    subst hfs
    subst q1
    have v0 : (gW LM ad km (advS T))[0]? = some (oc (ad 0) 12 (gf LM ad (advS T) 0)) := gW_o (L := LM) (o := 0) (Nat.le_of_ble_eq_true rfl)
    have v1 : (gW LM ad km (advS T))[1]? = some (ic (ad 1) (km 0) 4000 (T.1 0)) := (gW_a (L := LM) (i := 0) (Nat.le_of_ble_eq_true rfl)).trans (by rw [gc_adv (by decide), gc_i (L := LM) (i := 0) (g := 0) (n := 4000) rfl rfl rfl]; rfl)
    obtain ⟨r1, r2⟩ := gjoin (A := va_A (gW LM ad km T) s.heap.size) (ws' := gW LM ad km (advS T)) (fun j => j = 0 ∨ j = 1) qP qD.self (fun j x hx hn => by
        by_cases hj : j - 1 < 99
        · have e : j = gO LM + (j - 1) := by show j = 1 + (j - 1); omega
          rw [e] at hx ⊢
          rw [gW_a hj] at hx ⊢
          rw [gc_adv hj] at hx
          exact hx
        · rw [List.getElem?_eq_none (by rw [gW_len]; show 1 + 99 ≤ j; omega)] at hx
          cases hx) (fun j x hx hj => by
        rcases hj with hj | hj
        · subst hj
          rw [v0] at hx
          cases hx
          exact ⟨g1 0 _ rfl, _, w0, rfl⟩
        · subst hj
          rw [v1] at hx
          cases hx
          exact ⟨g1 1 _ rfl, _, w1, rfl⟩) (fun q hq => by
        rcases hq with ⟨k, e, hk⟩ | hq
        · match k, hk with
          | 0, hk => cases hk; exact Or.inl ⟨0, _, Or.inl rfl, w0, rfl⟩
          | 1, hk => cases hk; exact Or.inl ⟨1, _, Or.inr rfl, w1, rfl⟩
        · exact Or.inr hq) hF.2
    exact ⟨⟨(), ho, trivial, r1, va_K.moved hv qK, r2⟩, hF.1, fun q h1 h2 => hF.2 q h1 (fun h => h2 (hsub q h))⟩
theorem lift_isW (l : Launch) (dC : Nat → ClassId) (dI : Nat → Nat → Nat) (ea ev ad : Nat → Nat) (km : Nat → ClassId) (d : Nat) (T : gSt) (i : Nat) (hi : i < 33) : GMi l dC dI LM ad km ea ev y_Model_isWord w_Model_isWord (rmD d) [.ref (ad 0), .ref (ea i)] T (isWd T i) T :=
  lift_Si (c_Model_isWord_l l dC dI ea ev (ad 0) (gf LM ad T 0) (T.1 2 0) (T.2 6 0) (T.1 7 0) i gf_len ((gfM_at (by decide)).trans (congrArg some (gv_i rfl))) ((gfM_at (by decide)).trans (congrArg some (gv_l rfl))) ((gfM_at (by decide)).trans (congrArg some (gv_i rfl))) hi) ⟨by show 5 ≤ d + 10; omega, by show 108 ≤ 100 * d + 1000; omega, Nat.le_refl _, Nat.le_refl _⟩ (fun sz U q => ⟨fun k x hk => by
    match k, hk with
    | 0, hk => cases hk; exact q.2.1 0 _ (gW_o (L := LM) (o := 0) (Nat.le_of_ble_eq_true rfl)), q.2.2.1.none, env0.less q.2.2.2.2.2 (fun _ h => h.elim)⟩)
theorem lift_pck (l : Launch) (dC : Nat → ClassId) (dI : Nat → Nat → Nat) (ea ev ad : Nat → Nat) (km : Nat → ClassId) (d : Nat) (T : gSt) (i : Nat) (hi : i < 33) : GMl l dC dI LM ad km ea ev y_Model_packed w_Model_packed (rmD d) [.ref (ea i)] T (pks i (s_len.getD i 0)) T :=
  lift_Sl (c_Model_packed_l l dC dI ea ev i hi) ⟨by show 4 ≤ d + 10; omega, by show 85 ≤ 100 * d + 1000; omega, Nat.le_refl _, Nat.le_refl _⟩ (fun sz U q => ⟨fun k x hk => (by cases hk), q.2.2.1.none, env0.less q.2.2.2.2.2 (fun _ h => h.elim)⟩)
