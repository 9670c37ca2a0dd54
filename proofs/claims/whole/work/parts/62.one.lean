set_option maxHeartbeats 8000000 in
set_option maxRecDepth 100000 in
theorem one_start {p : Program} {e : Env} {s : State} {m : MethodId} {below : List Frame} {meth : Method} {c : Code} (l : Launch) {b L : Nat} {xs : Nat → Int32} (hL : L ≤ 6) (C0 : lw_At p s m meth c b L xs) : W p l e room_1 s m #[Value.ref b] below meth c s.heap [] 0 0 (lw_Z below #[Value.ref b] s) (entryFrame m ([Value.ref b] : List Value).toArray 4) := by
  obtain ⟨hx, hb, hr, hml, hown, hts, hX, hbl, hlocks, hgv⟩ := id C0
  have hT : ∀ w ∈ lw_good, w.before #[Value.ref b] s = true := fun w h => hts w (List.mem_filter.mp h).1
  have hnw : nw_all s := nw_tbl hts
  obtain ⟨A, hAe⟩ : ∃ A : Nat → Prop, A = (fun q => s.heap.size ≤ q) := ⟨_, rfl⟩
  have hA : ∀ q : Nat, s.heap.size ≤ q → A q := by rw [hAe]; exact fun _ h => h
  have hAf : ∀ q : Nat, A q → s.heap.size ≤ q := by rw [hAe]; exact fun _ h => h
  have hbA : ¬ A b := fun h => absurd (hAf b h) (Nat.not_le.mpr hbl)
  obtain ⟨ad, av, henv⟩ := env_start (A := A) hgv hts (fun a h q => absurd (hAf a q) (Nat.not_le.mpr h))
  obtain ⟨c0, iS0, hKn0⟩ := u_known (C := R_Code) (T := F_Code) (N := 7) (n := 7) hT i_Code (hT _ ia_Code)
  obtain ⟨c1, iS1, hKn1⟩ := u_known (C := R_Exprs) (T := F_Exprs) (N := 6) (n := 6) hT i_Exprs (hT _ ia_Exprs)
  obtain ⟨c2, iS2, hKn2⟩ := u_known (C := R_Heads) (T := F_Heads) (N := 5) (n := 5) hT i_Heads (hT _ ia_Heads)
  obtain ⟨c3, iS3, hKn3⟩ := u_known (C := R_Items) (T := F_Items) (N := 21) (n := 21) hT i_Items (hT _ ia_Items)
  obtain ⟨c4, iS4, hKn4⟩ := u_known (C := R_Machine) (T := F_Machine) (N := 18) (n := 18) hT i_Machine (hT _ ia_Machine)
  obtain ⟨c5, iS5, hKn5⟩ := u_known (C := R_Memory) (T := F_Memory) (N := 14) (n := 14) hT i_Memory (hT _ ia_Memory)
  obtain ⟨c6, iS6, hKn6⟩ := u_known (C := R_Parser) (T := F_Parser) (N := 7) (n := 7) hT i_Parser (hT _ ia_Parser)
  obtain ⟨c7, iS7, hKn7⟩ := u_known (C := R_Scope) (T := F_Scope) (N := 14) (n := 14) hT i_Scope (hT _ ia_Scope)
  obtain ⟨c8, iS8, hKn8⟩ := u_known (C := R_Source) (T := F_Source) (N := 16) (n := 16) hT i_Source (hT _ ia_Source)
  obtain ⟨c9, iS9, hKn9⟩ := u_known (C := R_Steps) (T := F_Steps) (N := 7) (n := 7) hT i_Steps (hT _ ia_Steps)
  obtain ⟨c10, iS10, hKn10⟩ := u_known (C := R_Types) (T := F_Types) (N := 2) (n := 2) hT i_Types (hT _ ia_Types)
  obtain ⟨c11, iS11, hKn11⟩ := u_known (C := R_House) (T := F_House) (N := 11) (n := 11) hT i_House (hT _ ia_House)
  obtain ⟨c12, iS12, hKn12⟩ := u_known (C := R_Model) (T := F_Model) (N := 153) (n := 153) hT i_Model (hT _ ia_Model)
  obtain ⟨c13, iS13, hKn13⟩ := u_known (C := R_Str) (T := F_Str) (N := 4) (n := 4) hT i_Str (hT _ ia_Str)
  obtain ⟨dC, dI, hKc⟩ : ∃ (dC : Nat → ClassId) (dI : Nat → Nat → Nat), ∀ (k : Nat) (q : vw_C), cls_all[k]? = some q → u_Kn s q.1 q.2.1 q.2.2 (dC k) (dI k) := by
    refine ⟨fun k => [c0, c1, c2, c3, c4, c5, c6, c7, c8, c9, c10, c11, c12, c13].getD k c0, fun k => [iS0, iS1, iS2, iS3, iS4, iS5, iS6, iS7, iS8, iS9, iS10, iS11, iS12, iS13].getD k iS0, ?_⟩
    intro k q hq
    match k, hq with
    | 0, hq => cases hq; exact hKn0
    | 1, hq => cases hq; exact hKn1
    | 2, hq => cases hq; exact hKn2
    | 3, hq => cases hq; exact hKn3
    | 4, hq => cases hq; exact hKn4
    | 5, hq => cases hq; exact hKn5
    | 6, hq => cases hq; exact hKn6
    | 7, hq => cases hq; exact hKn7
    | 8, hq => cases hq; exact hKn8
    | 9, hq => cases hq; exact hKn9
    | 10, hq => cases hq; exact hKn10
    | 11, hq => cases hq; exact hKn11
    | 12, hq => cases hq; exact hKn12
    | 13, hq => cases hq; exact hKn13
    | k + 14, hq => simp [cls_all] at hq
  clear hKn0 hKn1 hKn2 hKn3 hKn4 hKn5 hKn6 hKn7 hKn8 hKn9 hKn10 hKn11 hKn12 hKn13
  have hS : va_S A s.heap s.heap [] := va_S.rf
  have hK : va_K (dC, dI) cls_all [] s := ⟨hKc, fun k q h => by simp at h⟩
  have hP : va_P (dC, dI) cls_all [] s.heap := fun k q h => by simp at h
  have hD : va_D A [] := ⟨fun i j p q h => by simp at h, fun k q h => by simp at h⟩
  have hl := lv_entry ([.ref b]) (n := 4) (Nat.le_of_ble_eq_true rfl)
  rw [lg_entry_eq]
  generalize (lg_sl ([.ref b]) ++ List.replicate (4 - (lg_sl ([.ref b])).length) Slot.unset).toArray = ls at hl ⊢
  have hl : lv_has ls 4 [(0, .ref b)] := hl
  refine va_new (ci := 11) (fs := ([.null, .int 0, .int 0, .int 0, .null, .null, .null, .null, .null, .null, .null] : List Value)) (C := R_House) (T := F_House) (N := 11) hx hb hT i_House t_House t_House_ok hown (hT _ cl_law_7) (hT _ ia_House) (hT _ ini_House) hK hP hD hS hA rfl (fv_lt (by decide +kernel)) (Nat.le_of_ble_eq_true rfl) (Nat.le_of_ble_eq_true rfl) d_law_0 (fun q1 H hP hD hS => ?_)
  have hP : va_P (dC, dI) cls_all [oc q1 11 ([.null, .int 0, .int 0, .int 0, .null, .null, .null, .null, .null, .null, .null] : List Value)] H := hP
  have hD : va_D A [oc q1 11 ([.null, .int 0, .int 0, .int 0, .null, .null, .null, .null, .null, .null, .null] : List Value)] := hD
  refine W.widen (k := 1) (n := 11) (Nat.le_of_ble_eq_true rfl) (Nat.le_of_ble_eq_true rfl) ?_
  refine lv_dup hx hb d_law_3 rfl ?_
  have hPc := hP.sub (ws' := [oc q1 11 ([.null, .int 0, .int 0, .int 0, .null, .null, .null, .null, .null, .null, .null] : List Value)]) [0] rfl
  have hKc := hK.sub (tys' := []) [] rfl
  have hDc := hD.sub (ws' := [oc q1 11 ([.null, .int 0, .int 0, .int 0, .null, .null, .null, .null, .null, .null, .null] : List Value)]) [0] (by decide) rfl
  have hFc := va_free (wc := [oc q1 11 ([.null, .int 0, .int 0, .int 0, .null, .null, .null, .null, .null, .null, .null] : List Value)]) hD hS hA [0] rfl
  refine va_callv (va_runI (As := []) (rest := [.ref q1]) ⟨hx, hb, hml, hown, hT⟩ (c_House_init l dC dI (sz := H.size) (ad := ad) (av := av) (h_this := q1) ) (cwI 0 hT (good_c co_House_init) rfl rfl rfl (hT _ ini_House) (hT _ ml_law_9) (hT _ im_House_init) rfl (by decide +kernel) ⟨Nat.le_of_ble_eq_true rfl, Nat.le_of_ble_eq_true rfl⟩) ⟨fbQne, fun U hU hW => ⟨rfl, by rw [hU], by rw [hU]; exact hPc, va_K.moved hW.alike hKc, hDc.weaken (fun _ _ _ _ => trivial), nw_all.warm hW hnw, env0.hand henv hS hU hW hFc⟩⟩ rfl rfl hl.1 rfl (lv_room (Nat.le_of_ble_eq_true rfl)) d_law_4 ⟨Nat.le_of_ble_eq_true rfl, Nat.le_of_ble_eq_true rfl⟩) hS (fun q _ h => hFc q h) hFc (fun u t H1 locs ht hvm hw hB hz1 hk1 hS => ?_)
  obtain ⟨hm_2, km_2, hw2_0, hP1, hK1, hD1⟩ := hB
  rw [ht] at hP1
  have hK1 := va_K.moved hvm.symm hK1
  obtain ⟨hP, hD⟩ := va_join (wr := []) (w1 := [oc q1 11 ([.ref (hm_2 0), .int 0, .int 0, .int 0, .ref (hm_2 1), .ref (hm_2 14), .ref (hm_2 35), .ref (hm_2 40), .ref (hm_2 41), .ref (hm_2 50), .ref (hm_2 52)] : List Value), ic (hm_2 0) (km_2 0) 4000 (fun _ => 0), oc (hm_2 1) 8 ([.ref (hm_2 2), .ref (hm_2 3), .ref (hm_2 4), .ref (hm_2 5), .ref (hm_2 6), .ref (hm_2 7), .ref (hm_2 8), .ref (hm_2 9), .int 0, .null, .int 0, .ref (hm_2 10), .ref (hm_2 11), .ref (hm_2 12), .int 0, .ref (hm_2 13)] : List Value), ic (hm_2 2) (km_2 2) 4008 (fun _ => 0), ic (hm_2 3) (km_2 3) 4008 (fun _ => 0), ic (hm_2 4) (km_2 4) 4008 (fun _ => 0), ic (hm_2 5) (km_2 5) 4008 (fun _ => 0), ic (hm_2 6) (km_2 6) 4008 (fun _ => 0), ic (hm_2 7) (km_2 7) 4008 (fun _ => 0), ic (hm_2 8) (km_2 8) 4008 (fun _ => 0), ic (hm_2 9) (km_2 9) 4008 (fun _ => 0), ic (hm_2 10) (km_2 10) 4001 (fun _ => 0), ic (hm_2 11) (km_2 11) 4001 (fun _ => 0), jc (hm_2 12) (km_2 12) 4001 (fun _ => 0), jc (hm_2 13) (km_2 13) 26 (wt 133), oc (hm_2 14) 3 ([.int 0, .ref (hm_2 15), .ref (hm_2 16), .ref (hm_2 17), .ref (hm_2 18), .ref (hm_2 19), .ref (hm_2 20), .ref (hm_2 21), .ref (hm_2 22), .ref (hm_2 23), .ref (hm_2 24), .ref (hm_2 25), .ref (hm_2 26), .ref (hm_2 27), .ref (hm_2 28), .ref (hm_2 29), .ref (hm_2 30), .ref (hm_2 31), .ref (hm_2 32), .ref (hm_2 33), .ref (hm_2 34)] : List Value), ic (hm_2 15) (km_2 15) 24 (fun _ => 0), ic (hm_2 16) (km_2 16) 24 (fun _ => 0), jc (hm_2 17) (km_2 17) 24 (fun _ => 0), ic (hm_2 18) (km_2 18) 24 (fun _ => 0), ic (hm_2 19) (km_2 19) 24 (fun _ => 0), ic (hm_2 20) (km_2 20) 24 (fun _ => 0), ic (hm_2 21) (km_2 21) 24 (fun _ => 0), ic (hm_2 22) (km_2 22) 24 (fun _ => 0), ic (hm_2 23) (km_2 23) 24 (fun _ => 0), ic (hm_2 24) (km_2 24) 24 (fun _ => 0), ic (hm_2 25) (km_2 25) 24 (fun _ => 0), ic (hm_2 26) (km_2 26) 24 (fun _ => 0), ic (hm_2 27) (km_2 27) 24 (fun _ => 0), ic (hm_2 28) (km_2 28) 24 (fun _ => 0), ic (hm_2 29) (km_2 29) 24 (fun _ => 0), ic (hm_2 30) (km_2 30) 192 (fun _ => 0), ic (hm_2 31) (km_2 31) 192 (fun _ => 0), ic (hm_2 32) (km_2 32) 192 (fun _ => 0), ic (hm_2 33) (km_2 33) 24 (fun _ => 0), ic (hm_2 34) (km_2 34) 72 (fun _ => 0), oc (hm_2 35) 0 ([.ref (hm_2 36), .ref (hm_2 37), .ref (hm_2 38), .int 0, .ref (hm_2 39), .int 0, .int (-1)] : List Value), ic (hm_2 36) (km_2 36) 6032 (fun _ => 0), ic (hm_2 37) (km_2 37) 6032 (fun _ => 0), ic (hm_2 38) (km_2 38) 6032 (fun _ => 0), ic (hm_2 39) (km_2 39) 7 (fun _ => 0), oc (hm_2 40) 6 ([.ref (hm_2 1), .ref (hm_2 14), .ref (hm_2 35), .int 0, .int 0, .int 0, .int 0] : List Value), oc (hm_2 41) 2 ([.ref (hm_2 1), .ref (hm_2 14), .ref (hm_2 42), .ref (hm_2 44), .ref (hm_2 35)] : List Value), oc (hm_2 42) 10 ([.ref (hm_2 43), .long 0] : List Value), jc (hm_2 43) (km_2 43) 16384 (fun _ => 0), oc (hm_2 44) 7 ([.ref (hm_2 1), .ref (hm_2 14), .ref (hm_2 42), .int 0, .int 0, .ref (hm_2 45), .ref (hm_2 46), .ref (hm_2 47), .int 0, .ref (hm_2 48), .ref (hm_2 49), .int 0, .int 0, .long 0] : List Value), jc (hm_2 45) (km_2 45) 20 (fun _ => 0), ic (hm_2 46) (km_2 46) 20 (fun _ => 0), ic (hm_2 47) (km_2 47) 21 (fun _ => 0), jc (hm_2 48) (km_2 48) 12 (fun _ => 0), ic (hm_2 49) (km_2 49) 12 (fun _ => 0), oc (hm_2 50) 9 ([.ref (hm_2 1), .ref (hm_2 14), .ref (hm_2 41), .ref (hm_2 42), .ref (hm_2 44), .ref (hm_2 51), .ref (hm_2 35)] : List Value), oc (hm_2 51) 1 ([.ref (hm_2 1), .ref (hm_2 14), .ref (hm_2 41), .ref (hm_2 42), .ref (hm_2 44), .ref (hm_2 35)] : List Value), oc (hm_2 52) 4 ([.ref (hm_2 35), .ref (hm_2 14), .ref (hm_2 58), .ref (hm_2 53), .int 0, .ref (hm_2 54), .int 0, .ref (hm_2 55), .int 0, .int 0, .int 0, .int 0, .int 0, .int 0, .ref (hm_2 56), .int 0, .ref (hm_2 57), .int 0] : List Value), ic (hm_2 53) (km_2 53) 23200 (fun _ => 0), ic (hm_2 54) (km_2 54) 697 (fun _ => 0), ic (hm_2 55) (km_2 55) 3200 (fun _ => 0), ic (hm_2 56) (km_2 56) 100 (fun _ => 0), ic (hm_2 57) (km_2 57) 300 (fun _ => 0), oc (hm_2 58) 5 ([.ref (hm_2 59), .ref (hm_2 60), .ref (hm_2 61), .int 0, .int 0, .int 0, .int 0, .int 0, .int 0, .ref (hm_2 62), .ref (hm_2 63), .ref (hm_2 64), .ref (hm_2 65), .ref (hm_2 66)] : List Value), ic (hm_2 59) (km_2 59) 4096 (fun _ => 0), ic (hm_2 60) (km_2 60) 4096 (fun _ => 0), ic (hm_2 61) (km_2 61) 64 (fun _ => 0), ic (hm_2 62) (km_2 62) 321 (fun _ => 0), ic (hm_2 63) (km_2 63) 321 (fun _ => 0), ic (hm_2 64) (km_2 64) 321 (fun _ => 0), ic (hm_2 65) (km_2 65) 321 (fun _ => 0), ic (hm_2 66) (km_2 66) 321 (fun _ => 0)]) hP hD [0] [] rfl rfl (by decide) (by decide) hk1 hFc hP1 hD1
  generalize H1 = H at hP hS ⊢
  have hP : va_P (dC, dI) cls_all [oc q1 11 ([.ref (hm_2 0), .int 0, .int 0, .int 0, .ref (hm_2 1), .ref (hm_2 14), .ref (hm_2 35), .ref (hm_2 40), .ref (hm_2 41), .ref (hm_2 50), .ref (hm_2 52)] : List Value), ic (hm_2 0) (km_2 0) 4000 (fun _ => 0), oc (hm_2 1) 8 ([.ref (hm_2 2), .ref (hm_2 3), .ref (hm_2 4), .ref (hm_2 5), .ref (hm_2 6), .ref (hm_2 7), .ref (hm_2 8), .ref (hm_2 9), .int 0, .null, .int 0, .ref (hm_2 10), .ref (hm_2 11), .ref (hm_2 12), .int 0, .ref (hm_2 13)] : List Value), ic (hm_2 2) (km_2 2) 4008 (fun _ => 0), ic (hm_2 3) (km_2 3) 4008 (fun _ => 0), ic (hm_2 4) (km_2 4) 4008 (fun _ => 0), ic (hm_2 5) (km_2 5) 4008 (fun _ => 0), ic (hm_2 6) (km_2 6) 4008 (fun _ => 0), ic (hm_2 7) (km_2 7) 4008 (fun _ => 0), ic (hm_2 8) (km_2 8) 4008 (fun _ => 0), ic (hm_2 9) (km_2 9) 4008 (fun _ => 0), ic (hm_2 10) (km_2 10) 4001 (fun _ => 0), ic (hm_2 11) (km_2 11) 4001 (fun _ => 0), jc (hm_2 12) (km_2 12) 4001 (fun _ => 0), jc (hm_2 13) (km_2 13) 26 (wt 133), oc (hm_2 14) 3 ([.int 0, .ref (hm_2 15), .ref (hm_2 16), .ref (hm_2 17), .ref (hm_2 18), .ref (hm_2 19), .ref (hm_2 20), .ref (hm_2 21), .ref (hm_2 22), .ref (hm_2 23), .ref (hm_2 24), .ref (hm_2 25), .ref (hm_2 26), .ref (hm_2 27), .ref (hm_2 28), .ref (hm_2 29), .ref (hm_2 30), .ref (hm_2 31), .ref (hm_2 32), .ref (hm_2 33), .ref (hm_2 34)] : List Value), ic (hm_2 15) (km_2 15) 24 (fun _ => 0), ic (hm_2 16) (km_2 16) 24 (fun _ => 0), jc (hm_2 17) (km_2 17) 24 (fun _ => 0), ic (hm_2 18) (km_2 18) 24 (fun _ => 0), ic (hm_2 19) (km_2 19) 24 (fun _ => 0), ic (hm_2 20) (km_2 20) 24 (fun _ => 0), ic (hm_2 21) (km_2 21) 24 (fun _ => 0), ic (hm_2 22) (km_2 22) 24 (fun _ => 0), ic (hm_2 23) (km_2 23) 24 (fun _ => 0), ic (hm_2 24) (km_2 24) 24 (fun _ => 0), ic (hm_2 25) (km_2 25) 24 (fun _ => 0), ic (hm_2 26) (km_2 26) 24 (fun _ => 0), ic (hm_2 27) (km_2 27) 24 (fun _ => 0), ic (hm_2 28) (km_2 28) 24 (fun _ => 0), ic (hm_2 29) (km_2 29) 24 (fun _ => 0), ic (hm_2 30) (km_2 30) 192 (fun _ => 0), ic (hm_2 31) (km_2 31) 192 (fun _ => 0), ic (hm_2 32) (km_2 32) 192 (fun _ => 0), ic (hm_2 33) (km_2 33) 24 (fun _ => 0), ic (hm_2 34) (km_2 34) 72 (fun _ => 0), oc (hm_2 35) 0 ([.ref (hm_2 36), .ref (hm_2 37), .ref (hm_2 38), .int 0, .ref (hm_2 39), .int 0, .int (-1)] : List Value), ic (hm_2 36) (km_2 36) 6032 (fun _ => 0), ic (hm_2 37) (km_2 37) 6032 (fun _ => 0), ic (hm_2 38) (km_2 38) 6032 (fun _ => 0), ic (hm_2 39) (km_2 39) 7 (fun _ => 0), oc (hm_2 40) 6 ([.ref (hm_2 1), .ref (hm_2 14), .ref (hm_2 35), .int 0, .int 0, .int 0, .int 0] : List Value), oc (hm_2 41) 2 ([.ref (hm_2 1), .ref (hm_2 14), .ref (hm_2 42), .ref (hm_2 44), .ref (hm_2 35)] : List Value), oc (hm_2 42) 10 ([.ref (hm_2 43), .long 0] : List Value), jc (hm_2 43) (km_2 43) 16384 (fun _ => 0), oc (hm_2 44) 7 ([.ref (hm_2 1), .ref (hm_2 14), .ref (hm_2 42), .int 0, .int 0, .ref (hm_2 45), .ref (hm_2 46), .ref (hm_2 47), .int 0, .ref (hm_2 48), .ref (hm_2 49), .int 0, .int 0, .long 0] : List Value), jc (hm_2 45) (km_2 45) 20 (fun _ => 0), ic (hm_2 46) (km_2 46) 20 (fun _ => 0), ic (hm_2 47) (km_2 47) 21 (fun _ => 0), jc (hm_2 48) (km_2 48) 12 (fun _ => 0), ic (hm_2 49) (km_2 49) 12 (fun _ => 0), oc (hm_2 50) 9 ([.ref (hm_2 1), .ref (hm_2 14), .ref (hm_2 41), .ref (hm_2 42), .ref (hm_2 44), .ref (hm_2 51), .ref (hm_2 35)] : List Value), oc (hm_2 51) 1 ([.ref (hm_2 1), .ref (hm_2 14), .ref (hm_2 41), .ref (hm_2 42), .ref (hm_2 44), .ref (hm_2 35)] : List Value), oc (hm_2 52) 4 ([.ref (hm_2 35), .ref (hm_2 14), .ref (hm_2 58), .ref (hm_2 53), .int 0, .ref (hm_2 54), .int 0, .ref (hm_2 55), .int 0, .int 0, .int 0, .int 0, .int 0, .int 0, .ref (hm_2 56), .int 0, .ref (hm_2 57), .int 0] : List Value), ic (hm_2 53) (km_2 53) 23200 (fun _ => 0), ic (hm_2 54) (km_2 54) 697 (fun _ => 0), ic (hm_2 55) (km_2 55) 3200 (fun _ => 0), ic (hm_2 56) (km_2 56) 100 (fun _ => 0), ic (hm_2 57) (km_2 57) 300 (fun _ => 0), oc (hm_2 58) 5 ([.ref (hm_2 59), .ref (hm_2 60), .ref (hm_2 61), .int 0, .int 0, .int 0, .int 0, .int 0, .int 0, .ref (hm_2 62), .ref (hm_2 63), .ref (hm_2 64), .ref (hm_2 65), .ref (hm_2 66)] : List Value), ic (hm_2 59) (km_2 59) 4096 (fun _ => 0), ic (hm_2 60) (km_2 60) 4096 (fun _ => 0), ic (hm_2 61) (km_2 61) 64 (fun _ => 0), ic (hm_2 62) (km_2 62) 321 (fun _ => 0), ic (hm_2 63) (km_2 63) 321 (fun _ => 0), ic (hm_2 64) (km_2 64) 321 (fun _ => 0), ic (hm_2 65) (km_2 65) 321 (fun _ => 0), ic (hm_2 66) (km_2 66) 321 (fun _ => 0)] H := hP
  have hD : va_D A [oc q1 11 ([.ref (hm_2 0), .int 0, .int 0, .int 0, .ref (hm_2 1), .ref (hm_2 14), .ref (hm_2 35), .ref (hm_2 40), .ref (hm_2 41), .ref (hm_2 50), .ref (hm_2 52)] : List Value), ic (hm_2 0) (km_2 0) 4000 (fun _ => 0), oc (hm_2 1) 8 ([.ref (hm_2 2), .ref (hm_2 3), .ref (hm_2 4), .ref (hm_2 5), .ref (hm_2 6), .ref (hm_2 7), .ref (hm_2 8), .ref (hm_2 9), .int 0, .null, .int 0, .ref (hm_2 10), .ref (hm_2 11), .ref (hm_2 12), .int 0, .ref (hm_2 13)] : List Value), ic (hm_2 2) (km_2 2) 4008 (fun _ => 0), ic (hm_2 3) (km_2 3) 4008 (fun _ => 0), ic (hm_2 4) (km_2 4) 4008 (fun _ => 0), ic (hm_2 5) (km_2 5) 4008 (fun _ => 0), ic (hm_2 6) (km_2 6) 4008 (fun _ => 0), ic (hm_2 7) (km_2 7) 4008 (fun _ => 0), ic (hm_2 8) (km_2 8) 4008 (fun _ => 0), ic (hm_2 9) (km_2 9) 4008 (fun _ => 0), ic (hm_2 10) (km_2 10) 4001 (fun _ => 0), ic (hm_2 11) (km_2 11) 4001 (fun _ => 0), jc (hm_2 12) (km_2 12) 4001 (fun _ => 0), jc (hm_2 13) (km_2 13) 26 (wt 133), oc (hm_2 14) 3 ([.int 0, .ref (hm_2 15), .ref (hm_2 16), .ref (hm_2 17), .ref (hm_2 18), .ref (hm_2 19), .ref (hm_2 20), .ref (hm_2 21), .ref (hm_2 22), .ref (hm_2 23), .ref (hm_2 24), .ref (hm_2 25), .ref (hm_2 26), .ref (hm_2 27), .ref (hm_2 28), .ref (hm_2 29), .ref (hm_2 30), .ref (hm_2 31), .ref (hm_2 32), .ref (hm_2 33), .ref (hm_2 34)] : List Value), ic (hm_2 15) (km_2 15) 24 (fun _ => 0), ic (hm_2 16) (km_2 16) 24 (fun _ => 0), jc (hm_2 17) (km_2 17) 24 (fun _ => 0), ic (hm_2 18) (km_2 18) 24 (fun _ => 0), ic (hm_2 19) (km_2 19) 24 (fun _ => 0), ic (hm_2 20) (km_2 20) 24 (fun _ => 0), ic (hm_2 21) (km_2 21) 24 (fun _ => 0), ic (hm_2 22) (km_2 22) 24 (fun _ => 0), ic (hm_2 23) (km_2 23) 24 (fun _ => 0), ic (hm_2 24) (km_2 24) 24 (fun _ => 0), ic (hm_2 25) (km_2 25) 24 (fun _ => 0), ic (hm_2 26) (km_2 26) 24 (fun _ => 0), ic (hm_2 27) (km_2 27) 24 (fun _ => 0), ic (hm_2 28) (km_2 28) 24 (fun _ => 0), ic (hm_2 29) (km_2 29) 24 (fun _ => 0), ic (hm_2 30) (km_2 30) 192 (fun _ => 0), ic (hm_2 31) (km_2 31) 192 (fun _ => 0), ic (hm_2 32) (km_2 32) 192 (fun _ => 0), ic (hm_2 33) (km_2 33) 24 (fun _ => 0), ic (hm_2 34) (km_2 34) 72 (fun _ => 0), oc (hm_2 35) 0 ([.ref (hm_2 36), .ref (hm_2 37), .ref (hm_2 38), .int 0, .ref (hm_2 39), .int 0, .int (-1)] : List Value), ic (hm_2 36) (km_2 36) 6032 (fun _ => 0), ic (hm_2 37) (km_2 37) 6032 (fun _ => 0), ic (hm_2 38) (km_2 38) 6032 (fun _ => 0), ic (hm_2 39) (km_2 39) 7 (fun _ => 0), oc (hm_2 40) 6 ([.ref (hm_2 1), .ref (hm_2 14), .ref (hm_2 35), .int 0, .int 0, .int 0, .int 0] : List Value), oc (hm_2 41) 2 ([.ref (hm_2 1), .ref (hm_2 14), .ref (hm_2 42), .ref (hm_2 44), .ref (hm_2 35)] : List Value), oc (hm_2 42) 10 ([.ref (hm_2 43), .long 0] : List Value), jc (hm_2 43) (km_2 43) 16384 (fun _ => 0), oc (hm_2 44) 7 ([.ref (hm_2 1), .ref (hm_2 14), .ref (hm_2 42), .int 0, .int 0, .ref (hm_2 45), .ref (hm_2 46), .ref (hm_2 47), .int 0, .ref (hm_2 48), .ref (hm_2 49), .int 0, .int 0, .long 0] : List Value), jc (hm_2 45) (km_2 45) 20 (fun _ => 0), ic (hm_2 46) (km_2 46) 20 (fun _ => 0), ic (hm_2 47) (km_2 47) 21 (fun _ => 0), jc (hm_2 48) (km_2 48) 12 (fun _ => 0), ic (hm_2 49) (km_2 49) 12 (fun _ => 0), oc (hm_2 50) 9 ([.ref (hm_2 1), .ref (hm_2 14), .ref (hm_2 41), .ref (hm_2 42), .ref (hm_2 44), .ref (hm_2 51), .ref (hm_2 35)] : List Value), oc (hm_2 51) 1 ([.ref (hm_2 1), .ref (hm_2 14), .ref (hm_2 41), .ref (hm_2 42), .ref (hm_2 44), .ref (hm_2 35)] : List Value), oc (hm_2 52) 4 ([.ref (hm_2 35), .ref (hm_2 14), .ref (hm_2 58), .ref (hm_2 53), .int 0, .ref (hm_2 54), .int 0, .ref (hm_2 55), .int 0, .int 0, .int 0, .int 0, .int 0, .int 0, .ref (hm_2 56), .int 0, .ref (hm_2 57), .int 0] : List Value), ic (hm_2 53) (km_2 53) 23200 (fun _ => 0), ic (hm_2 54) (km_2 54) 697 (fun _ => 0), ic (hm_2 55) (km_2 55) 3200 (fun _ => 0), ic (hm_2 56) (km_2 56) 100 (fun _ => 0), ic (hm_2 57) (km_2 57) 300 (fun _ => 0), oc (hm_2 58) 5 ([.ref (hm_2 59), .ref (hm_2 60), .ref (hm_2 61), .int 0, .int 0, .int 0, .int 0, .int 0, .int 0, .ref (hm_2 62), .ref (hm_2 63), .ref (hm_2 64), .ref (hm_2 65), .ref (hm_2 66)] : List Value), ic (hm_2 59) (km_2 59) 4096 (fun _ => 0), ic (hm_2 60) (km_2 60) 4096 (fun _ => 0), ic (hm_2 61) (km_2 61) 64 (fun _ => 0), ic (hm_2 62) (km_2 62) 321 (fun _ => 0), ic (hm_2 63) (km_2 63) 321 (fun _ => 0), ic (hm_2 64) (km_2 64) 321 (fun _ => 0), ic (hm_2 65) (km_2 65) 321 (fun _ => 0), ic (hm_2 66) (km_2 66) 321 (fun _ => 0)] := hD
  have hK : va_K (dC, dI) cls_all [((km_2 0), .char), ((km_2 2), .int), ((km_2 3), .int), ((km_2 4), .int), ((km_2 5), .int), ((km_2 6), .int), ((km_2 7), .int), ((km_2 8), .int), ((km_2 9), .int), ((km_2 10), .int), ((km_2 11), .int), ((km_2 12), .long), ((km_2 13), .long), ((km_2 15), .int), ((km_2 16), .int), ((km_2 17), .long), ((km_2 18), .int), ((km_2 19), .int), ((km_2 20), .int), ((km_2 21), .int), ((km_2 22), .int), ((km_2 23), .int), ((km_2 24), .int), ((km_2 25), .int), ((km_2 26), .int), ((km_2 27), .int), ((km_2 28), .int), ((km_2 29), .int), ((km_2 30), .int), ((km_2 31), .int), ((km_2 32), .int), ((km_2 33), .int), ((km_2 34), .int), ((km_2 36), .int), ((km_2 37), .int), ((km_2 38), .int), ((km_2 39), .int), ((km_2 43), .long), ((km_2 45), .long), ((km_2 46), .int), ((km_2 47), .int), ((km_2 48), .long), ((km_2 49), .int), ((km_2 53), .int), ((km_2 54), .int), ((km_2 55), .int), ((km_2 56), .int), ((km_2 57), .int), ((km_2 59), .int), ((km_2 60), .boolean), ((km_2 61), .int), ((km_2 62), .int), ((km_2 63), .int), ((km_2 64), .int), ((km_2 65), .int), ((km_2 66), .int)] s := hK.app hK1
  refine W.widen (k := 146) (n := 121703) (Nat.le_of_ble_eq_true rfl) (Nat.le_of_ble_eq_true rfl) ?_
  refine lv_astore_n (lv' := [(1, .ref q1), (0, .ref b)]) hx hb d_law_7 rfl hl (by decide) rfl (fun ls hl => ?_)
  have hP : va_P (dC, dI) cls_all (wH hm_2 km_2 q1) H := hP
  have hD : va_D A (wH hm_2 km_2 q1) := hD
  have hK : va_K (dC, dI) cls_all (tyH km_2) s := hK
  refine va_new (ci := 12) (fs := (fsG 153 mo_kd mo_ord 0 (fun _ => 0) (fun _ => 0) (fun _ => 0))) (C := R_Model) (T := F_Model) (N := 153) hx hb hT i_Model t_Model t_Model_ok hown (hT _ cl_law_10) (hT _ ia_Model) (hT _ ini_Model) hK hP hD hS hA rfl (fv_lt (by decide +kernel)) (Nat.le_of_ble_eq_true rfl) (Nat.le_of_ble_eq_true rfl) d_law_8 (fun m0 H hP hD hS => ?_)
  refine W.widen (k := 147) (n := 121856) (Nat.le_of_ble_eq_true rfl) (Nat.le_of_ble_eq_true rfl) ?_
  refine lv_dup hx hb d_law_11 rfl ?_
  have hPc := hP.sub (ws' := [oc m0 12 (fsG 153 mo_kd mo_ord 0 (fun _ => 0) (fun _ => 0) (fun _ => 0))]) [68] rfl
  have hKc := hK.sub (tys' := []) [] rfl
  have hDc := hD.sub (ws' := [oc m0 12 (fsG 153 mo_kd mo_ord 0 (fun _ => 0) (fun _ => 0) (fun _ => 0))]) [68] (by decide) rfl
  have hFc := va_free (wc := [oc m0 12 (fsG 153 mo_kd mo_ord 0 (fun _ => 0) (fun _ => 0) (fun _ => 0))]) hD hS hA [68] rfl
  refine va_callv (va_runI (As := []) (rest := [.ref m0]) ⟨hx, hb, hml, hown, hT⟩ (c_Model_init l dC dI (sz := H.size) (h_this := m0)) (cwI 0 hT (good_c co_Model_init) rfl rfl rfl (hT _ ini_Model) (hT _ ml_law_12) (hT _ im_Model_init) rfl (by decide +kernel) ⟨Nat.le_of_ble_eq_true rfl, Nat.le_of_ble_eq_true rfl⟩) ⟨fbQ, fun U hU hW => ⟨rfl, by rw [hU], by rw [hU]; exact hPc, va_K.moved hW.alike hKc, hDc.weaken (fun _ _ _ _ => trivial)⟩⟩ rfl rfl hl.1 rfl (lv_room (Nat.le_of_ble_eq_true rfl)) d_law_12 ⟨Nat.le_of_ble_eq_true rfl, Nat.le_of_ble_eq_true rfl⟩) hS (fun q _ h => hFc q h) hFc (fun u t H1 locs ht hvm hw hB hz1 hk1 hS => ?_)
  obtain ⟨hm2, km2, hP1, hK1, hD1⟩ := hB
  rw [ht] at hP1
  have hK1 := va_K.moved hvm.symm hK1
  obtain ⟨hP, hD⟩ := va_join (wr := wH hm_2 km_2 q1) (w1 := at_mo0 hm2 km2 m0) hP hD [68] [0, 1, 2, 3, 4, 5, 6, 7, 8, 9, 10, 11, 12, 13, 14, 15, 16, 17, 18, 19, 20, 21, 22, 23, 24, 25, 26, 27, 28, 29, 30, 31, 32, 33, 34, 35, 36, 37, 38, 39, 40, 41, 42, 43, 44, 45, 46, 47, 48, 49, 50, 51, 52, 53, 54, 55, 56, 57, 58, 59, 60, 61, 62, 63, 64, 65, 66, 67] rfl rfl (by decide) (by decide) hk1 hFc hP1 hD1
  generalize H1 = H at hP hS ⊢
  have hK : va_K (dC, dI) cls_all (tyH km_2 ++ tysG mo_tt 99 km2) s := hK.app hK1
  refine W.widen (k := 246) (n := 442275) (Nat.le_of_ble_eq_true rfl) (Nat.le_of_ble_eq_true rfl) ?_
  refine lv_astore_n (lv' := [(2, .ref m0), (1, .ref q1), (0, .ref b)]) hx hb d_law_15 rfl hl (by decide) rfl (fun ls hl => ?_)
  refine lv_iconst (v := 0) hx hb d_law_16 (by decide) ?_
  refine lv_istore_n (lv' := [(3, .int 0), (2, .ref m0), (1, .ref q1), (0, .ref b)]) hx hb d_law_17 rfl hl (by decide) rfl (fun ls hl => ?_)
  have hl : lv_has ls 4 [(3, .int (nI 0)), (2, .ref m0), (1, .ref q1), (0, .ref b)] := lv_sub hl [0, 1, 2, 3] rfl
  have fin : ∀ (H : Heap) (locs : List Loc) (ls : Array Slot), va_S A s.heap H locs → W p l e room_1 s m #[Value.ref b] below meth c H locs 246 442275 (lw_Z below #[Value.ref b] s) (F0 m 428 ls []) := by
    intro H locs ls hS
    refine lv_iconst (v := 1) hx hb d_law_428 (by decide) ?_
    refine va_forget (fun q hq => hAf _ (hS.2.2 q hq)) ?_
    refine W.widen (k := 600000) (n := 7302250) (Nat.le_of_ble_eq_true rfl) (Nat.le_of_ble_eq_true rfl) ?_
    exact lw_ret hx hb hr hlocks d_law_429
  by_cases h6 : L = 6
  · subst h6
    have kk : ∀ (H : Heap) (locs : List Loc) (ls : Array Slot), va_S A s.heap H locs → lv_has ls 4 [(3, .int (nI 0)), (2, .ref m0), (1, .ref q1), (0, .ref b)] → W p l e room_1 s m #[Value.ref b] below meth c H locs 246 442275 (lw_Z below #[Value.ref b] s) (F0 m 422 ls []) := by
      intro H locs ls hS hl
      refine lv_iinc (v := 6) (lv' := [(3, .int 6), (2, .ref m0), (1, .ref q1), (0, .ref b)]) hx hb d_law_422 hl (k := 0) rfl (by decide) (by decide) rfl (fun ls hl => ?_)
      refine lv_goto (tgt := 18) hx hb d_law_425 (by decide) ?_
      refine lv_iload_n hx hb d_law_18 rfl (lv_at hl 0 rfl) ?_
      refine lv_aload_n hx hb d_law_19 rfl (lv_at hl 3 rfl) ?_
      refine va_slen hx hb hX hbl hbA hS d_law_20 ?_
      refine lv_bipush (v := 6) hx hb d_law_21 (by decide) ?_
      refine lv_isub hx hb d_law_23 ?_
      refine lv_topi (fun x1 e1 => ?_)
      obtain rfl : x1 = 0 := e1.trans (by decide)
      refine lv_icmp_gt (tgt := 428) hx hb d_law_24 (by decide) (fun _ => ?_) (fun c1 => absurd (by decide) c1)
      exact fin _ _ _ hS
    refine lv_iload_n hx hb d_law_18 rfl (lv_at hl 0 rfl) ?_
    refine lv_aload_n hx hb d_law_19 rfl (lv_at hl 3 rfl) ?_
    refine va_slen hx hb hX hbl hbA hS d_law_20 ?_
    refine lv_bipush (v := 6) hx hb d_law_21 (by decide) ?_
    refine lv_isub hx hb d_law_23 ?_
    refine lv_topi (fun x1 e1 => ?_)
    obtain rfl : x1 = 0 := e1.trans (by decide)
    refine lv_icmp_gt (tgt := 428) hx hb d_law_24 (by decide) (fun c1 => absurd c1 (by decide)) (fun _ => ?_)
    refine lv_aload_n hx hb d_law_27 rfl (lv_at hl 3 rfl) ?_
    refine lv_iload_n hx hb d_law_28 rfl (lv_at hl 0 rfl) ?_
    refine va_sld hx hb hX hbl hbA hS (vp_in_nI (by decide) (by decide)) d_law_29 ?_
    refine lv_bipush (v := 15) hx hb d_law_30 (by decide) ?_
    refine lv_iand hx hb d_law_32 ?_
    refine lv_topi (fun x2 e2 => ?_)
    by_cases c3 : x2 = 0
    · have h13 : ¬ (x2 : Int32).toInt < 0 := by rw [c3]; decide
      have h23 : ¬ 11 < (x2 : Int32).toInt := by rw [c3]; decide
      refine lv_tableIn (off := 63) (tgt := 96) hx hb d_law_33 h13 h23 (by rw [c3]; decide) (by decide) ?_
      exact law_c0 l hx hb hml hown hT hnw henv hX hbl hbA (by decide) (by decide) hA hK hP hD hS hl kk
    by_cases c4 : x2 = 1
    · have h14 : ¬ (x2 : Int32).toInt < 0 := by rw [c4]; decide
      have h24 : ¬ 11 < (x2 : Int32).toInt := by rw [c4]; decide
      refine lv_tableIn (off := 126) (tgt := 159) hx hb d_law_33 h14 h24 (by rw [c4]; decide) (by decide) ?_
      exact law_c1 l hx hb hml hown hT hnw henv hX hbl hbA (by decide) (by decide) hA hK hP hD hS hl kk
    by_cases c5 : x2 = 2
    · have h15 : ¬ (x2 : Int32).toInt < 0 := by rw [c5]; decide
      have h25 : ¬ 11 < (x2 : Int32).toInt := by rw [c5]; decide
      refine lv_tableIn (off := 149) (tgt := 182) hx hb d_law_33 h15 h25 (by rw [c5]; decide) (by decide) ?_
      exact law_c2 l hx hb hml hown hT hnw henv hX hbl hbA (by decide) (by decide) hA hK hP hD hS hl kk
    by_cases c6 : x2 = 3
    · have h16 : ¬ (x2 : Int32).toInt < 0 := by rw [c6]; decide
      have h26 : ¬ 11 < (x2 : Int32).toInt := by rw [c6]; decide
      refine lv_tableIn (off := 162) (tgt := 195) hx hb d_law_33 h16 h26 (by rw [c6]; decide) (by decide) ?_
      exact law_c3 l hx hb hml hown hT hnw henv hX hbl hbA (by decide) (by decide) hA hK hP hD hS hl kk
    by_cases c7 : x2 = 4
    · have h17 : ¬ (x2 : Int32).toInt < 0 := by rw [c7]; decide
      have h27 : ¬ 11 < (x2 : Int32).toInt := by rw [c7]; decide
      refine lv_tableIn (off := 185) (tgt := 218) hx hb d_law_33 h17 h27 (by rw [c7]; decide) (by decide) ?_
      exact law_c4 l hx hb hml hown hT hnw henv hX hbl hbA (by decide) (by decide) hA hK hP hD hS hl kk
    by_cases c8 : x2 = 5
    · have h18 : ¬ (x2 : Int32).toInt < 0 := by rw [c8]; decide
      have h28 : ¬ 11 < (x2 : Int32).toInt := by rw [c8]; decide
      refine lv_tableIn (off := 208) (tgt := 241) hx hb d_law_33 h18 h28 (by rw [c8]; decide) (by decide) ?_
      exact law_c5 l hx hb hml hown hT hnw henv hX hbl hbA (by decide) (by decide) hA hK hP hD hS hl kk
    by_cases c9 : x2 = 6
    · have h19 : ¬ (x2 : Int32).toInt < 0 := by rw [c9]; decide
      have h29 : ¬ 11 < (x2 : Int32).toInt := by rw [c9]; decide
      refine lv_tableIn (off := 241) (tgt := 274) hx hb d_law_33 h19 h29 (by rw [c9]; decide) (by decide) ?_
      exact law_c6 l hx hb hml hown hT hnw henv hX hbl hbA (by decide) (by decide) hA hK hP hD hS hl kk
    by_cases c10 : x2 = 7
    · have h110 : ¬ (x2 : Int32).toInt < 0 := by rw [c10]; decide
      have h210 : ¬ 11 < (x2 : Int32).toInt := by rw [c10]; decide
      refine lv_tableIn (off := 264) (tgt := 297) hx hb d_law_33 h110 h210 (by rw [c10]; decide) (by decide) ?_
      exact law_c7 l hx hb hml hown hT hnw henv hX hbl hbA (by decide) (by decide) hA hK hP hD hS hl kk
    by_cases c11 : x2 = 8
    · have h111 : ¬ (x2 : Int32).toInt < 0 := by rw [c11]; decide
      have h211 : ¬ 11 < (x2 : Int32).toInt := by rw [c11]; decide
      refine lv_tableIn (off := 287) (tgt := 320) hx hb d_law_33 h111 h211 (by rw [c11]; decide) (by decide) ?_
      exact law_c8 l hx hb hml hown hT hnw henv hX hbl hbA (by decide) (by decide) hA hK hP hD hS hl kk
    by_cases c12 : x2 = 9
    · have h112 : ¬ (x2 : Int32).toInt < 0 := by rw [c12]; decide
      have h212 : ¬ 11 < (x2 : Int32).toInt := by rw [c12]; decide
      refine lv_tableIn (off := 310) (tgt := 343) hx hb d_law_33 h112 h212 (by rw [c12]; decide) (by decide) ?_
      exact law_c9 l hx hb hml hown hT hnw henv hX hbl hbA (by decide) (by decide) hA hK hP hD hS hl kk
    by_cases c13 : x2 = 10
    · have h113 : ¬ (x2 : Int32).toInt < 0 := by rw [c13]; decide
      have h213 : ¬ 11 < (x2 : Int32).toInt := by rw [c13]; decide
      refine lv_tableIn (off := 333) (tgt := 366) hx hb d_law_33 h113 h213 (by rw [c13]; decide) (by decide) ?_
      exact law_c10 l hx hb hml hown hT hnw henv hX hbl hbA (by decide) (by decide) hA hK hP hD hS hl kk
    by_cases c14 : x2 = 11
    · have h114 : ¬ (x2 : Int32).toInt < 0 := by rw [c14]; decide
      have h214 : ¬ 11 < (x2 : Int32).toInt := by rw [c14]; decide
      refine lv_tableIn (off := 366) (tgt := 399) hx hb d_law_33 h114 h214 (by rw [c14]; decide) (by decide) ?_
      exact law_c11 l hx hb hml hown hT hnw henv hX hbl hbA (by decide) (by decide) hA hK hP hD hS hl kk
    have h315 : (x2 : Int32).toInt < 0 ∨ 11 < (x2 : Int32).toInt := by
      simp only [i_eq, Int32.reduceToInt] at c3 c4 c5 c6 c7 c8 c9 c10 c11 c12 c13 c14; omega
    refine lv_tableOut (tgt := 422) hx hb d_law_33 h315 (by decide) ?_
    exact kk _ _ _ hS hl
  · have h5 : L < 6 := by omega
    refine lv_iload_n hx hb d_law_18 rfl (lv_at hl 0 rfl) ?_
    refine lv_aload_n hx hb d_law_19 rfl (lv_at hl 3 rfl) ?_
    refine va_slen hx hb hX hbl hbA hS d_law_20 ?_
    refine lv_bipush (v := 6) hx hb d_law_21 (by decide) ?_
    refine lv_isub hx hb d_law_23 ?_
    refine lv_icmp_gt (tgt := 428) hx hb d_law_24 (by decide) (fun _ => fin _ _ _ hS) (fun c1 => absurd ?_ c1)
    rcases (show L = 0 ∨ L = 1 ∨ L = 2 ∨ L = 3 ∨ L = 4 ∨ L = 5 by omega) with rfl | rfl | rfl | rfl | rfl | rfl <;> decide
