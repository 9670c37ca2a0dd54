/-! both machines: one instruction each -/
/-- the program's constants -/
def CxP (M0 T0 Sf : gSt) : Prop := Rws Sf ∧ cn Sf < 6000 ∧ (∀ k, k = 12 ∨ k = 15 ∨ k = 18 ∨ k = 19 ∨ k = 24 ∨ k = 25 ∨ k = 26 ∨ (65 ≤ k ∧ k ≤ 70) → M0.1 k = Sf.1 k) ∧ (∃ n1, T0.1 51 0 = nI n1 ∧ n1 ≤ 6032) ∧ inn Sf ≤ 24 ∧ ∀ t, t < inn Sf → ∃ c m, ItQ Sf T0 t c m
/-- the class does an instruction -/
def dC (nf d : Nat) (T : gSt) (op x y : Int32) : gR := if 9 < op then (if 16 < op then (if 26 < op then (if 32 < op then (if 42 < op then PP nf d 214 T [op, x, y] [] else PP nf d 211 T [op, x, y] []) else PP nf d 210 T [op, y] []) else PP nf d 207 T [op, x, y] []) else PP nf d 206 T [op] []) else PP nf d 203 T [op, x, y] []
def StR (nf d : Nat) (M M' : gSt) : Prop := ∃ n r l, M.1 102 0 = nI n ∧ n < 12000 ∧ ¬ M.1 96 n = 0 ∧ RR nf d 118 (sI M 102 0 (nI (n + 1))) [M.1 96 n, M.1 97 n, M.1 98 n, M.1 99 n] [] = some (r, l, M')
def StC (nf d : Nat) (T T' : gSt) : Prop := ∃ m c r l, T.1 105 0 = nI m ∧ T.1 51 0 = nI c ∧ c ≤ 6032 ∧ m < c ∧ ¬ T.1 48 m = 1 ∧ dC nf d (sI T 105 0 (nI (m + 1))) (T.1 48 m) (T.1 49 m) (T.1 50 m) = some (r, l, T')
/-- both raise x -/
def RzO (nf d d' : Nat) (M T : gSt) : Prop := ∃ (x : Int32) (M1 T1 : gSt) (d1 d2 : Nat), d ≤ d1 + 5 ∧ d' ≤ d2 + 5 ∧ (∀ k, k ≠ 102 → k ≠ 109 → M1.1 k = M.1 k) ∧ M1.2 = M.2 ∧ (∀ k, k ≠ 100 → k ≠ 105 → T1.1 k = T.1 k) ∧ T1.2 = T.2 ∧ (∀ r l M', RR nf d1 114 M1 [x] [] = some (r, l, M') → StR nf d M M') ∧ ∀ r l T', PP nf d2 216 T1 [x] [] = some (r, l, T') → StC nf d' T T'
/-- both stop, in state s -/
def SpO (nf d d' : Nat) (s : Int32) (M T : gSt) : Prop := ∃ M' T', StR nf d M M' ∧ StC nf d' T T' ∧ (∀ k, k ≠ 100 → k ≠ 102 → M'.1 k = M.1 k) ∧ M'.2 = M.2 ∧ (∀ k, k ≠ 105 → k ≠ 106 → k ≠ 99 → k ≠ 100 → T'.1 k = T.1 k) ∧ T'.2 = T.2 ∧ M'.1 100 0 = s ∧ T'.1 106 0 = s
def RnO (M T : gSt) : Prop := M.1 100 0 = 1 ∧ T.1 106 0 = 1
section SM3
variable {M0 T0 Sf S Sh : gSt} {G G' : GH} {D D' : Nat → (Nat → AV) × Nat} {nf d d' nb nb' mk mk' na na' ng ng' e bs ph bt rb tb ie en hb k q u s i j c t h P W Dp n m it : Nat} {rg rg' : Nat → Nat} {ρ : Nat → Nat} {va : Nat → AV} {M M' T T' : gSt} {v : AV} {x a b cc ee op y : Int32} {st s0 st' : List Int32} {ov o0 ov' : List AV} {hs : List HD} {F : FRM} {Fr : Nat → FRM} {f : Nat → Int32} {r1 : Int32} {l1 : Int64}
theorem StR.of (h102 : M.1 102 0 = nI n) (hn : n < 12000) (row : rwC4 M n = (a, b, cc, ee)) (ha : ¬ a = 0) (hr : RR nf d 118 (sI M 102 0 (nI (n + 1))) [a, b, cc, ee] [] = some (r1, l1, M')) : StR nf d M M' := by
  unfold rwC4 at row
  injection row with w1 w
  injection w with w2 w
  injection w with w3 w4
  exact ⟨n, r1, l1, h102, hn, by rw [w1]; exact ha, by rw [w1, w2, w3, w4]; exact hr⟩
theorem StC.of (h105 : T.1 105 0 = nI m) (h51 : T.1 51 0 = nI c) (hc : c ≤ 6032) (hm : m < c) (row : cw3 T m = (op, x, y)) (ho : ¬ op = 1) (hr : dC nf d (sI T 105 0 (nI (m + 1))) op x y = some (r1, l1, T')) : StC nf d T T' := by
  unfold cw3 at row
  injection row with w1 w
  injection w with w2 w3
  exact ⟨m, c, r1, l1, h105, h51, hc, hm, by rw [w1]; exact ho, by rw [w1, w2, w3]; exact hr⟩
theorem dC_203 (h : ¬ (9 : Int32) < op) : dC nf d T op x y = PP nf d 203 T [op, x, y] [] := if_neg h
theorem dC_206 (h : (9 : Int32) < op) (h2 : ¬ (16 : Int32) < op) : dC nf d T op x y = PP nf d 206 T [op] [] := by unfold dC; rw [if_pos h, if_neg h2]
theorem dC_207 (h : (9 : Int32) < op) (h2 : (16 : Int32) < op) (h3 : ¬ (26 : Int32) < op) : dC nf d T op x y = PP nf d 207 T [op, x, y] [] := by unfold dC; rw [if_pos h, if_pos h2, if_neg h3]
theorem dC_210 (h : (9 : Int32) < op) (h2 : (16 : Int32) < op) (h3 : (26 : Int32) < op) (h4 : ¬ (32 : Int32) < op) : dC nf d T op x y = PP nf d 210 T [op, y] [] := by unfold dC; rw [if_pos h, if_pos h2, if_pos h3, if_neg h4]
theorem dC_211 (h : (9 : Int32) < op) (h2 : (16 : Int32) < op) (h3 : (26 : Int32) < op) (h4 : (32 : Int32) < op) (h5 : ¬ (42 : Int32) < op) : dC nf d T op x y = PP nf d 211 T [op, x, y] [] := by unfold dC; rw [if_pos h, if_pos h2, if_pos h3, if_pos h4, if_neg h5]
theorem dC_214 (h : (9 : Int32) < op) (h2 : (16 : Int32) < op) (h3 : (26 : Int32) < op) (h4 : (32 : Int32) < op) (h5 : (42 : Int32) < op) : dC nf d T op x y = PP nf d 214 T [op, x, y] [] := by unfold dC; rw [if_pos h, if_pos h2, if_pos h3, if_pos h4, if_pos h5]
theorem ps_stW (T : gSt) : psT T t x = stW T t (fun _ => x) 1 := by
  rw [← ps_100 (x := nI t), ← stW_100 (x := nI t)]
  have := stW_s (T := sI T 100 0 (nI t)) (t := t) (f := fun _ => x) (n := 0)
  rw [stW_0 (by rw [sI_v])] at this
  exact this
/-- room on both stacks -/
theorem Sim.bd (h : Sim M0 T0 Sf G D nb mk rg na ng P W Fr Dp M T) : fbs (Fr Dp) + 80 + wsl Sf (fst' (Fr Dp)) ≤ 21200 ∧ fph (Fr Dp) + (fst' (Fr Dp)).length ≤ 6000 ∧ ftb (Fr Dp) + (fhs (Fr Dp)).length ≤ 800 ∧ frb (Fr Dp) + 8 ≤ 321 ∧ Dp < 40 := by
  obtain ⟨_, ⟨a2, _, _⟩, a5, _⟩ := h
  obtain ⟨b1, b2, b3, b4⟩ := a5.bd Dp (Nat.le_refl _)
  obtain ⟨_, r1, r2, r3, r4, r5, r6, r7, r8, r9⟩ := a5.1 Dp (Nat.le_refl _)
  omega
/-- some values less on the stack, one in their place; the heaps stay -/
theorem ex_rp (hR : Rws Sf) (hc : cn Sf ≤ 6000) (h : Sim M0 T0 Sf G D nb mk rg na ng P W Fr Dp M T) (hst : fst' (Fr Dp) = st ++ s0) (hI : IvP Sf (fit (Fr Dp)) (fS (Fr Dp)) (x :: s0) (fhs (Fr Dp))) (hv : VTs Sf G nb rg na ng (fρ (Fr Dp)) v x) (hRV : RV G v a b cc ee) (hCW : ∀ i, i < wv v → f i = CW G v i) : ∃ ov', Sim M0 T0 Sf G D nb mk rg na ng P W (updF Fr Dp (mkF (fS (Fr Dp)) (fρ (Fr Dp)) (fva (Fr Dp)) (x :: s0) ov' (fhs (Fr Dp)) (fit (Fr Dp)) n m (fbs (Fr Dp)) (fph (Fr Dp)) (frb (Fr Dp)) (ftb (Fr Dp)) (fie (Fr Dp)))) Dp (rpT (sI M 102 0 (nI n)) (fph (Fr Dp) + s0.length) a b cc ee) (stW (sI T 105 0 (nI m)) (fbs (Fr Dp) + 80 + wsl Sf s0) f (wv v)) := by
  have oM : ∀ k, ¬ (k = 102 ∨ (109 ≤ k ∧ k ≤ 113)) → (rpT (sI M 102 0 (nI n)) (fph (Fr Dp) + s0.length) a b cc ee).1 k = M.1 k := fun k hk => by
    rw [rp_o (by omega) (by omega) (by omega) (by omega) (by omega), sI_ne (by omega)]
  have oT : ∀ k, ¬ (k = 99 ∨ k = 100 ∨ k = 105) → (stW (sI T 105 0 (nI m)) (fbs (Fr Dp) + 80 + wsl Sf s0) f (wv v)).1 k = T.1 k := fun k hk => by
    rw [stW_o (by omega) (by omega), sI_ne (by omega)]
  have wi := VTs.wi hR hc ((hI.2.2.2.1 x List.mem_cons_self).imp id (fun w => w.1)) hv
  have hH : HpI G D nb mk rg na ng P W (rpT (sI M 102 0 (nI n)) (fph (Fr Dp) + s0.length) a b cc ee) (stW (sI T 105 0 (nI m)) (fbs (Fr Dp) + 80 + wsl Sf s0) f (wv v)) := h.1.eq (fun k hk => oM k (by omega)) (fun k k1 k2 => oT k (by omega))
  refine Sim.ex hR hc h hH (fun _ _ => rfl) (Nat.le_refl _) h.2.2.2.2.2.2.2 hst hI (fun k hk => oM k (by omega)) rfl (fun k q k1 k2 hq => ?_) (fun k hk => oT k (by omega)) (oT 121 (by omega)) rfl (fun q hq => ?_) ?_ (fun o0 _ e4 => ⟨v :: o0, hv, ?_, fun i hi => ?_, e4⟩) ?_ ?_ ?_ ?_
  · unfold rpT
    rw [sI_ne (by omega)]
    rw [rdI, if_neg (by omega), rdI, if_neg (by omega), rdI, if_neg (by omega), rdI, if_neg (by omega), sI_ne (by omega)]
  · rw [stW_w, if_neg (by omega), sI_ne (by omega)]
  · obtain ⟨w, w1, w2, w3, w4⟩ := h.2.2.2.2.1
    exact ⟨w, by rw [oM 150 (by omega)]; exact w1, by rw [oT 111 (by omega)]; exact w2, w3, by rw [oM 151 (by omega), oT 110 (by omega)]; exact w4⟩
  · unfold rpT
    rw [sI_ne (g' := 110) (by omega), sI_ne (g' := 110) (by omega), sI_ne (g' := 110) (by omega), sI_ne (g' := 110) (by omega), sI_v, sI_ne (g' := 111) (by omega), sI_ne (g' := 111) (by omega), sI_ne (g' := 111) (by omega), sI_v, sI_ne (g' := 112) (by omega), sI_ne (g' := 112) (by omega), sI_v, sI_ne (g' := 113) (by omega), sI_v]
    exact hRV
  · rw [stW_w, if_pos (by omega), Nat.add_sub_cancel_left]
    exact hCW i hi
  · rw [rp_h, List.length_cons, Nat.add_assoc]
  · rw [stW_t, wi, show wsl Sf (x :: s0) = wS Sf x + wsl Sf s0 from rfl]
    congr 1
    omega
  · rw [rp_o (by omega) (by omega) (by omega) (by omega) (by omega), sI_v]
  · rw [stW_o (by omega) (by omega), sI_v]
end SM3
