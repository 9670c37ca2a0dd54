/-! STEPS on both sides: EXPRS in them; the class's code of STEPS -/
section SDG
variable {S S' S1 T T' T1 : gSt} {X : Lx} {it e m g n c k v q a b i j : Nat} {cd po : Nat → Nat} {x s : Int32} {R : RgR} {sl : Int32 → Int32}
theorem RgE_eq (h71 : S'.1 71 0 = S.1 71 0) (h73 : S'.1 73 = S.1 73) : RgE e S' = RgE e S := by
  unfold RgE rn
  rw [h71, h73]
theorem trc_eq (h : ∀ j, j < n → S'.1 85 j = S.1 85 j) : ∀ q, q ≤ n → trc S' q = trc S q := by
  intro q
  induction q with
  | zero => intro _; rfl
  | succ q ih =>
    intro hq
    rw [trc, trc, ih (by omega), h q (by omega)]
theorem RwR.st (h : RwR e S T) (h71 : S'.1 71 0 = S.1 71 0) (h73 : S'.1 73 = S.1 73) (h74 : S'.1 74 = S.1 74) (h84 : S'.1 84 0 = S.1 84 0) (h85 : S'.1 85 = S.1 85) (h86 : S'.1 86 0 = S.1 86 0) (hj : ∀ k, S'.2 72 k = S.2 72 k) (t72 : T'.1 72 0 = T.1 72 0) (t74 : ∀ j, T'.1 74 j = T.1 74 j) (t75 : T'.1 75 0 = T.1 75 0) (tj : ∀ k, T'.2 73 k = T.2 73 k) : RwR e S' T' := by
  obtain ⟨m, g, n, cd, po, ⟨a1, a2, a3, a4, a5, a6, a7, a8, a9, a10, a11, a12, a13⟩, ⟨b1, b2, b3, b4, b5, b6, b7⟩⟩ := h
  have tq : ∀ q, trc S' q = trc S q := fun q => trc_eq (n := q) (fun j _ => by rw [h85]) q (Nat.le_refl _)
  refine ⟨m, g, n, cd, po, ⟨a1, a2, by unfold rn at a3 ⊢; rw [h71]; exact a3, by rw [h71]; exact a4, by rw [t72]; exact a5, fun k hk => by rw [hj, tj, h73]; exact a6 k hk, fun k h1 h2 => by rw [tj]; exact a7 k h1 h2, fun j hj' => by rw [hj, tj, h73, h74]; exact a8 j hj', a9, fun a b ha hb => by rw [tj, tj]; exact a10 a b ha hb, fun a ha => by rw [tj]; exact a11 a ha, by rw [h86]; exact a12, a13⟩, ⟨by rw [h84]; exact b1, b2, fun j hj' => by rw [h85]; exact b3 j hj', b4, fun q hq => by rw [h85]; exact b5 q hq, by rw [t75, tq]; exact b6, fun j hj' => by rw [t74, tq]; exact b7 j hj'⟩⟩
theorem OsR.st (h : OsR it S T) (h76 : S'.1 76 0 = S.1 76 0) (h40 : T'.1 40 it = T.1 40 it) : OsR it S' T' := by
  unfold OsR at h ⊢
  rw [h76, h40]
  exact h
theorem isRo_tf (hF : TyF S S' T T') (h : tV S x) (hg : Tg S) : isRo S' x = isRo S x := by
  rcases h with w | ⟨p, w, p1, p2⟩
  · rw [w]; rfl
  · have := hg.2.2
    unfold isRo
    rw [w, nc (by omega), hF.2.1 p 66 p1 p2 (by omega) (by omega)]
theorem slW_eq (h80 : ∀ v, v < n → S'.1 80 v = S.1 80 v) (hr : ∀ v, v < n → isRo S' (S.1 80 v) = isRo S (S.1 80 v)) : ∀ v, v ≤ n → slW S' v = slW S v := by
  intro v
  induction v with
  | zero => intro _; rfl
  | succ v ih =>
    intro hv
    rw [slW, slW, ih (by omega)]
    unfold wS
    rw [h80 v (by omega), hr v (by omega)]
theorem slF_eq (h77 : vn S' = vn S) (hv : vn S ≤ 20) (h79 : ∀ v, v < vn S → S'.1 79 v = S.1 79 v) (hw : ∀ v, v ≤ vn S → slW S' v = slW S v) : slF S' = slF S := by
  funext s
  unfold slF
  rw [h77]
  have e : ff (isSl S' s) 0 (vn S) = ff (isSl S s) 0 (vn S) := ff_cg _ _ (fun j _ hj => by unfold isSl; rw [h79 j (by omega)])
  rw [e]
  rcases ff_val (p := isSl S s) (i := 0) (k := vn S) with w | ⟨j, _, j1, _, w⟩
  · rw [w]; rfl
  · rw [w, nc (by omega), hw j (by omega)]
theorem slF_at (hv : v < vn S) (hn : vn S ≤ 20) (hd : ∀ a b, a < vn S → b < vn S → S.1 79 a = S.1 79 b → a = b) : slF S (S.1 79 v) = nI (slW S v) := by
  unfold slF
  have := ff_fst (p := isSl S (S.1 79 v)) v 0 (vn S) (fun q _ q2 w => by
    have := hd q v (by omega) hv (of_decide_eq_true w)
    omega) (show isSl S (S.1 79 v) (0 + v) = true from decide_eq_true (by rw [Nat.zero_add])) (by omega)
  rw [Nat.zero_add] at this
  rw [this, nc (by omega)]
theorem VaS.vs (h : VaS e v S T) : vn S ≤ 20 ∧ S.1 77 0 = nI (vn S) ∧ T.1 68 0 = nI (vn S) := by
  obtain ⟨n, h1, h2, h3, _⟩ := h
  have : vn S = n := by unfold vn; rw [h1, nc (by omega)]
  rw [this]
  exact ⟨h3, h1, h2⟩
theorem VaS.ds (h : VaS e v S T) : ∀ a b, a < vn S → b < vn S → S.1 79 a = S.1 79 b → a = b := by
  obtain ⟨n, h1, h2, h3, h4, h5, h6, h7, h8⟩ := h
  have : vn S = n := by unfold vn; rw [h1, nc (by omega)]
  rw [this]
  exact h7
theorem VaS.slt (h : VaS e v S T) : ∀ u, u < vn S → slF S (S.1 79 u) = nI (slW S u) := fun u hu => slF_at hu h.vs.1 h.ds
theorem SrR.xr (h : SrR X it e v g n S T) : XR (RgE e S) (slF S) X S T := by
  obtain ⟨⟨a1, a2, a3, a4, a5, a6, ⟨m, g', n', cd, po, hA, hB⟩, a9, a11, a12, a13, a14, a15, a16⟩, hf⟩ := h
  exact ⟨⟨a1, hA.nm, a2, a3.1.1, a4, a5, a6⟩, a3.1, hA.r11, Or.inl ⟨rfl, by omega⟩, fun c k r => hA.b12 r, hf.lv hA, ov_ok hA hf a9 a15 a16.1, a11.va hf a11.slt, a12, a13, a14⟩
theorem SsR.tv (h : SsR X it e v g n S T) : ∀ u, u < vn S → tV S (S.1 80 u) := h.2.2.1.1.2.2.2.2.2.2.2
theorem SsR.fns (h : SsR X it e v g n S T) (hF : TyF S S' T T') (h71 : S'.1 71 0 = S.1 71 0) (h73 : S'.1 73 = S.1 73) (h77 : S'.1 77 0 = S.1 77 0) (h79 : S'.1 79 = S.1 79) (h80 : S'.1 80 = S.1 80) : RgE e S' = RgE e S ∧ slF S' = slF S ∧ ∀ u, u ≤ vn S → slW S' u = slW S u := by
  have ev : vn S' = vn S := by unfold vn; rw [h77]
  have sw : ∀ u, u ≤ vn S → slW S' u = slW S u := slW_eq (fun u _ => by rw [h80]) (fun u hu => isRo_tf hF (h.tv u hu) h.2.2.1.1.1)
  exact ⟨RgE_eq h71 h73, slF_eq ev h.2.2.2.2.2.2.2.2.1.vs.1 (fun u _ => by rw [h79]) sw, sw⟩
theorem VaS.mo (h : VaS e v S T) (hF : TyF S S' T T') (hR : RgE e S' = RgE e S) (hw : ∀ u, u ≤ vn S → slW S' u = slW S u) (h77 : S'.1 77 0 = S.1 77 0) (h78 : ∀ u, S'.2 78 u = S.2 78 u) (h79 : S'.1 79 = S.1 79) (h80 : S'.1 80 = S.1 80) (t68 : T'.1 68 0 = T.1 68 0) (t69 : ∀ u, T'.2 69 u = T.2 69 u) (t70 : ∀ u, T'.1 70 u = T.1 70 u) (t71 : ∀ u, T'.1 71 u = T.1 71 u) : VaS e v S' T' := by
  obtain ⟨n, h1, h2, h3, h4, h5, h6, h7, h8⟩ := h
  have ev : vn S = n := by unfold vn; rw [h1, nc (by omega)]
  refine ⟨n, by rw [h77]; exact h1, by rw [t68]; exact h2, h3, fun u hu => ?_, fun a b => by rw [h78, h78]; exact h5 a b, fun u hu => by rw [t71, hw u (by omega)]; exact h6 u hu, by rw [h79]; exact h7, h8⟩
  obtain ⟨a1, a2, y, a4, a5, a6⟩ := h4 u hu
  rw [h78, t69, h79, t70, h80, hR]
  exact ⟨a1, a2, y, a4, a5, TyR.mo hF (fun _ _ z => z) _ _ _ a6⟩
theorem FwR.mo {st kw lv rc : Int32} {w : Int64} (h : FwR e S T st kw lv rc w) (hV : VaS e v S T) (hF : TyF S S' T T') (hR : RgE e S' = RgE e S) (h77 : S'.1 77 0 = S.1 77 0) (h79 : S'.1 79 = S.1 79) (t70 : ∀ u, T'.1 70 u = T.1 70 u) : FwR e S' T' st kw lv rc w := by
  have ev : vn S' = vn S := by unfold vn; rw [h77]
  unfold FwR at h ⊢
  rw [hR, ev, h79]
  refine ⟨h.1, h.2.1, h.2.2.1, h.2.2.2.1, fun u s hu hs h20 => ?_⟩
  obtain ⟨b1, b2⟩ := h.2.2.2.2 u s hu hs h20
  refine ⟨b1, fun y y1 y2 y3 => ?_⟩
  rw [t70] at y1
  obtain ⟨n, h1, h2, h3, h4, _⟩ := hV
  have ev2 : vn S = n := by unfold vn; rw [h1, nc (by omega)]
  obtain ⟨_, _, y', a4, a5, a6⟩ := h4 u (by omega)
  have : y = y' := nI_inj (by omega) (by omega) (by rw [← y1, ← a4])
  subst this
  exact b2 y y1 y2 (by rw [a6.kd hF] at y3; exact y3)
/-- behind an EXPR -/
theorem SrR.ex (h : SrR X it e v g n S T) (hx : XR (RgE e S) (slF S) X S' T') (hF : TyF S S' T T') (fe : FE S S') (fx : FX T T') : SrR X it e v g n S' T' := by
  obtain ⟨f1, f2, f3⟩ := h.1.fns hF (by rw [fe.1 71 (by omega)]) (fe.1 73 (by omega)) (by rw [fe.1 77 (by omega)]) (fe.1 79 (by omega)) (fe.1 80 (by omega))
  have fw := fx.fw
  obtain ⟨⟨a1, a2, a3, a4, a5, a6, a7, a9, a11, a12, a13, a14, a15, a16⟩, hf⟩ := h
  refine ⟨⟨hx.1.1, hx.1.2.2.1, (a3.fe fe hx.2.1).1, hx.h0, hx.h53, hx.1.2.2.2.2.2.2, ?_, a9.st (by rw [fe.1 76 (by omega)]) (by rw [fx.o (by omega)]), a11.mo hF f1 f3 (by rw [fe.1 77 (by omega)]) (fun u => by rw [fe.2.1]) (fe.1 79 (by omega)) (fe.1 80 (by omega)) (by rw [fx.o (by omega)]) (fun u => fx.2.1 69 u (by omega)) (fun u => by rw [fx.o (by omega)]) (fun u => by rw [fx.o (by omega)]), hx.2.2.2.2.2.2.2.2.1, hx.2.2.2.2.2.2.2.2.2.1, hx.2.2.2.2.2.2.2.2.2.2, by rw [fx.o (by omega)]; exact a15, a16.1, by rw [fe.1 12 (by omega)]; exact a16.2⟩, ?_⟩
  · exact a7.st (by rw [fe.1 71 (by omega)]) (fe.1 73 (by omega)) (fe.1 74 (by omega)) (by rw [fe.1 84 (by omega)]) (fe.1 85 (by omega)) (by rw [fe.1 86 (by omega)]) (fun k => by rw [fe.2.1]) (by rw [fx.o (by omega)]) (fun j => by rw [fx.o (by omega)]) (by rw [fx.o (by omega)]) (fun k => fx.2.1 73 k (by omega))
  · rw [fe.1 81 (by omega), fe.1 82 (by omega), fe.1 75 (by omega), fe.1 83 (by omega), fw]
    exact hf.mo a11 hF f1 (by rw [fe.1 77 (by omega)]) (fe.1 79 (by omega)) (fun u => by rw [fx.o (by omega)])
/-- only what is known changes -/
theorem SsR.fo (h : SsR X it e v g n S T) (fo : ∀ k, ¬ (k = 75 ∨ k = 81 ∨ k = 82 ∨ k = 83) → S'.1 k = S.1 k) (f2 : S'.2 = S.2) (h83 : S'.1 83 0 = 0 ∨ S'.1 83 0 = 1) (t1 : T'.1 = T.1) (t2 : ∀ q j, q ≠ 77 → T'.2 q j = T.2 q j) : SsR X it e v g n S' T' ∧ RgE e S' = RgE e S ∧ slF S' = slF S ∧ TyF S S' T T' ∧ FZ T T' := by
  have hF : TyF S S' T T' := TyF.st (by rw [fo 65 (by omega)]) (fun k _ _ => fo k (by omega)) (fo 15 (by omega)) (by funext j; exact t2 62 j (by omega)) (t2 63 0 (by omega))
  obtain ⟨f1, f2', f3⟩ := h.fns hF (by rw [fo 71 (by omega)]) (fo 73 (by omega)) (by rw [fo 77 (by omega)]) (fo 79 (by omega)) (fo 80 (by omega))
  obtain ⟨a1, a2, a3, a4, a5, a6, a7, a9, a11, a12, a13, a14, a15, a16⟩ := h
  have FOs : FO S S' := ⟨fun k hk => fo k (fun w => hk (by unfold fO; omega)), f2⟩
  have fz : FZ T T' := FZ.sc a6 (fun k _ => by rw [t1]) (fun q j _ _ c => t2 q j c) (by rw [t1])
  have ec : cn S' = cn S := by unfold cn; rw [fo 65 (by omega)]
  have fs : FS S S' := ⟨fun k k1 k2 k3 => fo k (by omega), fun k _ => by rw [f2], fun hg => ⟨by unfold Tg; rw [ec, fo 65 (by omega)]; exact hg, by omega, fun _ p _ => by unfold rwT; rw [fo 66 (by omega), fo 67 (by omega), fo 68 (by omega), fo 69 (by omega), fo 70 (by omega)]⟩, fun q => by rw [fo 7 (by omega)]; exact q⟩
  refine ⟨⟨a1.fz fz, a2.fz fs fz, (a3.fo FOs h83).1, by rw [fo 7 (by omega)]; exact a4, by rw [t1]; exact a5, fz.2.2.1, a7.st (by rw [fo 71 (by omega)]) (fo 73 (by omega)) (fo 74 (by omega)) (by rw [fo 84 (by omega)]) (fo 85 (by omega)) (by rw [fo 86 (by omega)]) (fun k => by rw [f2]) (by rw [t1]) (fun j => by rw [t1]) (by rw [t1]) (fun k => t2 73 k (by omega)), a9.st (by rw [fo 76 (by omega)]) (by rw [t1]), a11.mo hF f1 f3 (by rw [fo 77 (by omega)]) (fun u => by rw [f2]) (fo 79 (by omega)) (fo 80 (by omega)) (by rw [t1]) (fun u => t2 69 u (by omega)) (fun u => by rw [t1]) (fun u => by rw [t1]), a12.fz hF fs fz, by rw [fo 87 (by omega), t1]; exact a13, a14.st (by rw [t1]) (fun k k1 k2 => by rw [fo k (by omega)]), by rw [t1]; exact a15, a16.1, by rw [fo 12 (by omega)]; exact a16.2⟩, f1, f2', hF, fz⟩
end SDG
/-- the code of an EXPR, class's rows n to m -/
def KxC (e : Nat) (Sf T S : gSt) (js : List T5) (n m : Nat) : Prop := m = n + (ksE js).length ∧ KrL (RgE e S) (slF S) Sf T (ksE js) n
def KpP (e : Nat) (Sf T S : gSt) (js : List T5) (n m : Nat) : Prop := ∃ l0 l un, js = l0 ++ [l] ∧ KrL (RgE e S) (slF S) Sf T (ksE l0) n ∧ PlW (RgE e S) Sf T 2 un l (n + (ksE l0).length) ∧ m = n + (ksE l0).length + 1
/-- the number of a REGION that is opened -/
def opR (e : Nat) (S : gSt) : Nat := 4 + (rn S - e)
/-- a row that stores so many words as type x has -/
def KwO (e : Nat) (Sf T S : gSt) (op a x : Int32) (m : Nat) : Prop := ∃ c, wdR (RgE e S) Sf T x c ∧ cw3 T m = (op, a, c)
def KwD (e : Nat) (Sf T S : gSt) (op x : Int32) (m : Nat) : Prop := ∃ c, wdR (RgE e S) Sf T x c ∧ cw3 T m = (op, c, 0)
abbrev seW (X : Lx) (ta : Tr) (S : gSt) : Int32 := fd (isVa S (xN X (lfI ta))) (vn S)
def KsN (X : Lx) (it e : Nat) (Sf T : gSt) (Ca Cb : Int32 → Int32 → gSt → Nat → Nat → Prop) (A : StF) (ta tb : Tr) (k i : Nat) (ys no : Int32) (S : gSt) (n n' : Nat) : Prop :=
  if k = 31 then Ca 0 0 S n n'
  else if k = 11 then ∃ q, n ≤ q ∧ q ≤ n' ∧ Ca 0 0 S n q ∧ Cb 0 0 (A 0 0 0 S) q n'
  else if k = 12 then ∃ q, n + 1 ≤ q ∧ q ≤ n' ∧ Ca 0 0 (kwS S ys) (n + 1) q ∧ (if emB tb = true then n' = q ∧ T.1 49 n = nI q else cw3 T q = (50, nI n', 0) ∧ T.1 49 n = nI (q + 1) ∧ q + 1 ≤ n' ∧ Cb 0 0 (prE A ys no S) (q + 1) n')
  else n < n' ∧ cw3 T n = (1, nI (xP X i), 0) ∧
    (if k = 20 then (if isZ ta = true then n' = n + 1 else ∃ m, KxC e Sf T (vaM X S i).2 (vaR X ta (vaM X S i).2).2.2.1 (n + 1) m ∧ KwO e Sf T S 4 (nI (slW S (vn S))) (vaM X S i).1 m ∧ n' = m + 1)
    else if k = 21 then ∃ m, KxC e Sf T S (chk X ta 0 0 S).2.2.1 (n + 1) m ∧ m < n' ∧ T.1 48 m = 51 ∧ T.1 50 m = 0 ∧ Cb (akY X ta (cdC X ta S)) (akN X ta (cdC X ta S)) (cdC X ta S) m n'
    else if k = 22 then ∃ m q, KxC e Sf T (whO X tb S) (chk X ta 0 0 (whO X tb S)).2.2.1 (n + 1) m ∧ m < q ∧ n' = q + 1 ∧ cw3 T m = (51, nI n', 0) ∧ cw3 T q = (50, nI n, 0) ∧ Cb 0 0 (kwS (cdC X ta (whO X tb S)) (akY X ta (cdC X ta (whO X tb S)))) (m + 1) q
    else if k = 23 then (if isZ ta = true then cw3 T (n + 1) = (58, 0, 0) ∧ n' = n + 2 else ∃ m, KxC e Sf T S (chk X ta 0 0 S).2.2.1 (n + 1) m ∧ KwD e Sf T S 58 (S.1 26 it) m ∧ n' = m + 1)
    else if k = 24 ∨ k = 25 then ∃ m, KxC e Sf T S (chk X ta 0 0 S).2.2.1 (n + 1) m ∧ cw3 T m = ((if k = 24 then 7 else 56), 0, 0) ∧ n' = m + 1
    else if k = 30 then ∃ m, KxC e Sf T S (chk X ta 0 0 S).2.2.1 (n + 1) m ∧ KwD e Sf T S 5 (chk X ta 0 0 S).1 m ∧ n' = m + 1
    else if k = 29 then ∃ m, KxC e Sf T S (chk X tb 0 0 S).2.2.1 (n + 1) m ∧ m < n' ∧ (if tkd X ta = 4 then KwO e Sf T S 4 (slF (chk X tb 0 0 S).2.2.2 (tf (chk X tb 0 0 S).2.2.2 79 (seW X ta (chk X tb 0 0 S).2.2.2))) (tf (chk X tb 0 0 S).2.2.2 80 (seW X ta (chk X tb 0 0 S).2.2.2)) m ∧ n' = m + 1 else KpP e Sf T (chk X tb 0 0 S).2.2.2 (chk X ta 0 0 (chk X tb 0 0 S).2.2.2).2.2.1 m n')
    else if k = 26 then ∃ q, n + 2 ≤ q ∧ q ≤ n' ∧ cw3 T (n + 1) = (52, nI (opR e S), 0) ∧ Ca 0 0 (rgO S (xN X (i + 1))) (n + 2) q ∧ (if isLv (A 0 0 0 (rgO S (xN X (i + 1)))) (4 + S.1 86 0) = 0 then n' = q else cw3 T q = (53, nI (opR e S), 0) ∧ n' = q + 1)
    else if k = 27 then (∃ c w, srR X S (i + 1) = nI c ∧ RgE e S c w ∧ cw3 T (n + 1) = (53, nI w, 0)) ∧ n' = n + 2
    else if k = 28 then ∃ q, n + 2 ≤ q ∧ q + 3 ≤ n' ∧ cw3 T (n + 1) = (54, nI (q + 2), 0) ∧ cw3 T q = (55, 0, 0) ∧ cw3 T (q + 1) = (50, nI n', 0) ∧ cw3 T (q + 2) = (4, 60 + S.1 87 0, 1) ∧ Ca 0 0 (trO S) (n + 2) q ∧ Cb 0 0 (trM X A ta S) (q + 3) n'
    else False)
/-- the class's rows n to n' are the code of STEPS -/
def KdS (X : Lx) (it e : Nat) (Sf T : gSt) : Tr → Int32 → Int32 → gSt → Nat → Nat → Prop
  | .add (.add (.var k) (.add (.var i) (.var _))) (.add a b), ys, no, S, n, n' => KsN X it e Sf T (KdS X it e Sf T a) (KdS X it e Sf T b) (stS X it a) a b k i ys no S n n'
  | _, _, _, _, n, n' => n' = n
/-- rows a to b stay, types too -/
def AgK (S S' T T' : gSt) (a b : Nat) : Prop := TyF S S' T T' ∧ S'.1 12 = S.1 12 ∧ (∀ k, (41 ≤ k ∧ k ≠ 42) → k ≤ 45 → T'.1 k = T.1 k) ∧ ∀ g q, 48 ≤ g → g ≤ 50 → a ≤ q → q < b → T'.1 g q = T.1 g q
section SDH
variable {S S' S1 T T' T1 Sf Sf' : gSt} {X : Lx} {it e m g n n' c k v q a b i j w : Nat} {x s ys no op y : Int32} {R : RgR} {sl : Int32 → Int32} {js ks : List T5} {t ta tb : Tr}
theorem KdS_n {e' : Nat} : KdS X it e Sf T (tD k i e' ta tb) ys no S n n' = KsN X it e Sf T (KdS X it e Sf T ta) (KdS X it e Sf T tb) (stS X it ta) ta tb k i ys no S n n' := rfl
theorem KdS_z (h : ∀ k i e a b, t ≠ tD k i e a b) : KdS X it e Sf T t ys no S n n' = (n' = n) := by
  unfold KdS
  split
  · rename_i k i e a b
    exact absurd rfl (h k i e a b)
  · rfl
theorem AgK.sub (h : AgK S S' T T' a b) (h1 : a ≤ n) (h2 : m ≤ b) : AgK S S' T T' n m := ⟨h.1, h.2.1, h.2.2.1, fun g q a b c d => h.2.2.2 g q a b (by omega) (by omega)⟩
theorem AgK.tr (h : AgK S S1 T T1 a b) (h2 : AgK S1 S' T1 T' a b) : AgK S S' T T' a b := ⟨h.1.tr h2.1, h2.2.1.trans h.2.1, fun k a b => (h2.2.2.1 k a b).trans (h.2.2.1 k a b), fun g q a b c d => (h2.2.2.2 g q a b c d).trans (h.2.2.2 g q a b c d)⟩
theorem AgK.rw (h : AgK S S' T T' a b) (h1 : a ≤ q) (h2 : q < b) : cw3 T' q = cw3 T q := by
  unfold cw3
  rw [h.2.2.2 48 q (by omega) (by omega) h1 h2, h.2.2.2 49 q (by omega) (by omega) h1 h2, h.2.2.2 50 q (by omega) (by omega) h1 h2]
theorem KrL.mk (hF : AgK S S' T T' a b) : ∀ (ks : List T5) (n : Nat), a ≤ n → n + ks.length ≤ b → KrL R sl S T ks n → KrL R sl S' T' ks n := by
  intro ks
  induction ks with
  | nil => intro n _ _ _; trivial
  | cons j ks ih =>
    intro n h1 h2 h
    rw [List.length_cons] at h2
    exact ⟨h.1.mo hF.1 hF.2.1 hF.2.2.1 (hF.rw h1 (by omega)), ih (n + 1) (by omega) (by omega) h.2⟩
theorem KxC.mo (h : KxC e Sf T S js n m) (hF : AgK Sf Sf' T T' a b) (h1 : a ≤ n) (h2 : m ≤ b) : KxC e Sf' T' S js n m := ⟨h.1, KrL.mk hF _ _ h1 (by have := h.1; omega) h.2⟩
theorem KwO.mo (h : KwO e Sf T S op x y m) (hF : AgK Sf Sf' T T' a b) (h1 : a ≤ m) (h2 : m < b) : KwO e Sf' T' S op x y m := by
  obtain ⟨c, c1, c2⟩ := h
  exact ⟨c, c1.mo hF.1, by rw [hF.rw h1 h2]; exact c2⟩
theorem KwD.mo (h : KwD e Sf T S op x m) (hF : AgK Sf Sf' T T' a b) (h1 : a ≤ m) (h2 : m < b) : KwD e Sf' T' S op x m := by
  obtain ⟨c, c1, c2⟩ := h
  exact ⟨c, c1.mo hF.1, by rw [hF.rw h1 h2]; exact c2⟩
theorem PlW.mo {u : Nat} {un : Bool} {l : T5} (h : PlW R S T u un l n) (hF : AgK S S' T T' a b) (h1 : a ≤ n) (h2 : n < b) : PlW R S' T' u un l n := by
  unfold PlW at h ⊢
  rw [hF.rw h1 h2]
  rcases h with ⟨l6, t, q, c, a1, a2, a3, a4, a5, a6⟩ | ⟨l8, c, a1, a2⟩ | ⟨l10, c, a1, a2⟩
  · refine Or.inl ⟨l6, t, q, c, a1.mo hF.1, a2, a3, a4.mo hF.1, by rw [hF.2.1]; exact a5, ?_⟩
    rw [a6]
    unfold rwF
    rw [hF.2.2.1 45 (by omega) (by omega)]
  · exact Or.inr (Or.inl ⟨l8, c, a1.mo hF.1, a2⟩)
  · exact Or.inr (Or.inr ⟨l10, c, a1.mo hF.1, a2⟩)
theorem KpP.mo (h : KpP e Sf T S js n m) (hF : AgK Sf Sf' T T' a b) (h1 : a ≤ n) (h2 : m ≤ b) : KpP e Sf' T' S js n m := by
  obtain ⟨l0, l, un, e1, e2, e3, e4⟩ := h
  exact ⟨l0, l, un, e1, KrL.mk hF _ _ h1 (by omega) e2, e3.mo hF (by omega) (by omega), e4⟩
theorem KdS.mo (t : Tr) : ∀ (ys no : Int32) (S : gSt) (n n' : Nat), AgK Sf Sf' T T' n n' → KdS X it e Sf T t ys no S n n' → KdS X it e Sf' T' t ys no S n n' := by
  induction t using Tr_ind with
  | hz t hz =>
    intro ys no S n n' _ h
    rw [KdS_z hz] at h ⊢
    exact h
  | h k i e' ta tb ihA ihB =>
    intro ys no S n n' hF h
    rw [KdS_n] at h ⊢
    unfold KsN at h ⊢
    by_cases c : k = 31
    · rw [if_pos c] at h ⊢
      exact ihA _ _ _ _ _ hF h
    rw [if_neg c] at h ⊢; clear c
    by_cases c : k = 11
    · rw [if_pos c] at h ⊢
      obtain ⟨q, h1, h2, h3, h4⟩ := h
      exact ⟨q, h1, h2, ihA _ _ _ _ _ (hF.sub (by omega) (by omega)) h3, ihB _ _ _ _ _ (hF.sub (by omega) (by omega)) h4⟩
    rw [if_neg c] at h ⊢; clear c
    by_cases c : k = 12
    · rw [if_pos c] at h ⊢
      obtain ⟨q, h1, h2, h3, h4⟩ := h
      refine ⟨q, h1, h2, ihA _ _ _ _ _ (hF.sub (by omega) (by omega)) h3, ?_⟩
      rw [hF.2.2.2 49 n (by omega) (by omega) (by omega) (by omega)]
      by_cases z : emB tb = true
      · rw [if_pos z] at h4 ⊢; exact h4
      · rw [if_neg z] at h4 ⊢
        obtain ⟨a1, a2, a3, a4⟩ := h4
        exact ⟨by rw [hF.rw (by omega) (by omega)]; exact a1, a2, a3, ihB _ _ _ _ _ (hF.sub (by omega) (by omega)) a4⟩
    rw [if_neg c] at h ⊢; clear c
    obtain ⟨hn, h0, h⟩ := h
    refine ⟨hn, by rw [hF.rw (by omega) (by omega)]; exact h0, ?_⟩
    by_cases c : k = 20
    · rw [if_pos c] at h ⊢
      by_cases z : isZ ta = true
      · rw [if_pos z] at h ⊢; exact h
      · rw [if_neg z] at h ⊢
        obtain ⟨m, a1, a2, a3⟩ := h
        have := a1.1
        exact ⟨m, a1.mo hF (by omega) (by omega), a2.mo hF (by omega) (by omega), a3⟩
    rw [if_neg c] at h ⊢; clear c
    by_cases c : k = 21
    · rw [if_pos c] at h ⊢
      obtain ⟨m, a1, a2, a3, a4, a6⟩ := h
      have := a1.1
      exact ⟨m, a1.mo hF (by omega) (by omega), a2, by rw [hF.2.2.2 48 m (by omega) (by omega) (by omega) (by omega)]; exact a3, by rw [hF.2.2.2 50 m (by omega) (by omega) (by omega) (by omega)]; exact a4, ihB _ _ _ _ _ (hF.sub (by omega) (by omega)) a6⟩
    rw [if_neg c] at h ⊢; clear c
    by_cases c : k = 22
    · rw [if_pos c] at h ⊢
      obtain ⟨m, q, a1, a2, a3, a4, a5, a6⟩ := h
      have := a1.1
      exact ⟨m, q, a1.mo hF (by omega) (by omega), a2, a3, by rw [hF.rw (by omega) (by omega)]; exact a4, by rw [hF.rw (by omega) (by omega)]; exact a5, ihB _ _ _ _ _ (hF.sub (by omega) (by omega)) a6⟩
    rw [if_neg c] at h ⊢; clear c
    by_cases c : k = 23
    · rw [if_pos c] at h ⊢
      by_cases z : isZ ta = true
      · rw [if_pos z] at h ⊢; exact ⟨by rw [hF.rw (by omega) (by omega)]; exact h.1, h.2⟩
      · rw [if_neg z] at h ⊢
        obtain ⟨m, a1, a2, a3⟩ := h
        have := a1.1
        exact ⟨m, a1.mo hF (by omega) (by omega), a2.mo hF (by omega) (by omega), a3⟩
    rw [if_neg c] at h ⊢; clear c
    by_cases c : k = 24 ∨ k = 25
    · rw [if_pos c] at h ⊢
      obtain ⟨m, a1, a2, a3⟩ := h
      have := a1.1
      exact ⟨m, a1.mo hF (by omega) (by omega), by rw [hF.rw (by omega) (by omega)]; exact a2, a3⟩
    rw [if_neg c] at h ⊢; clear c
    by_cases c : k = 30
    · rw [if_pos c] at h ⊢
      obtain ⟨m, a1, a2, a3⟩ := h
      have := a1.1
      exact ⟨m, a1.mo hF (by omega) (by omega), a2.mo hF (by omega) (by omega), a3⟩
    rw [if_neg c] at h ⊢; clear c
    by_cases c : k = 29
    · rw [if_pos c] at h ⊢
      obtain ⟨m, a1, a2, a3⟩ := h
      have := a1.1
      refine ⟨m, a1.mo hF (by omega) (by omega), a2, ?_⟩
      by_cases z : tkd X ta = 4
      · rw [if_pos z] at a3 ⊢
        exact ⟨a3.1.mo hF (by omega) (by omega), a3.2⟩
      · rw [if_neg z] at a3 ⊢
        exact a3.mo hF (by omega) (by omega)
    rw [if_neg c] at h ⊢; clear c
    by_cases c : k = 26
    · rw [if_pos c] at h ⊢
      obtain ⟨q, a1, a2, a3, a4, a5⟩ := h
      refine ⟨q, a1, a2, by rw [hF.rw (by omega) (by omega)]; exact a3, ihA _ _ _ _ _ (hF.sub (by omega) (by omega)) a4, ?_⟩
      by_cases z : isLv (stS X it ta 0 0 0 (rgO S (xN X (i + 1)))) (4 + S.1 86 0) = 0
      · rw [if_pos z] at a5 ⊢; exact a5
      · rw [if_neg z] at a5 ⊢
        exact ⟨by rw [hF.rw (by omega) (by omega)]; exact a5.1, a5.2⟩
    rw [if_neg c] at h ⊢; clear c
    by_cases c : k = 27
    · rw [if_pos c] at h ⊢
      obtain ⟨⟨c, w, a1, a2, a3⟩, a4⟩ := h
      exact ⟨⟨c, w, a1, a2, by rw [hF.rw (by omega) (by omega)]; exact a3⟩, a4⟩
    rw [if_neg c] at h ⊢; clear c
    by_cases c : k = 28
    · rw [if_pos c] at h ⊢
      obtain ⟨q, a1, a2, a3, a4, a5, a5b, a6, a7⟩ := h
      exact ⟨q, a1, a2, by rw [hF.rw (by omega) (by omega)]; exact a3, by rw [hF.rw (by omega) (by omega)]; exact a4, by rw [hF.rw (by omega) (by omega)]; exact a5, by rw [hF.rw (by omega) (by omega)]; exact a5b, ihA _ _ _ _ _ (hF.sub (by omega) (by omega)) a6, ihB _ _ _ _ _ (hF.sub (by omega) (by omega)) a7⟩
    rw [if_neg c] at h
    exact h.elim
end SDH
