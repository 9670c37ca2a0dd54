/-! what the check of STEPS does to the state -/
abbrev StF : Type := Int32 → Int32 → Nat → gSt → gSt
def cdC (X : Lx) (ta : Tr) (T : gSt) : gSt := cnT (chk X ta 0 0 T).2.2.2 (chk X ta 0 0 T).1 (plT X ta)
/-- a region is opened -/
def rgO (T : gSt) (nm : Int64) : gSt := sI (sI (sI (sI (sI (sJ (sI (sI T 86 0 (T.1 86 0 + 1)) 74 (4 + T.1 86 0).toNatClampNeg (inL T (arn T) 0 0)) 72 (rn T) nm) 73 (rn T) (4 + T.1 86 0)) 71 0 (nI (rn T + 1))) 85 (arn T) (4 + T.1 86 0)) 84 0 (nI (arn T + 1))) 75 0 (T.1 75 0 ||| (1 <<< ((4 + T.1 86 0) &&& 31)))
/-- and left -/
def rgL (T : gSt) (c : Int32) : gSt := dlS (sI (sI T 84 0 (T.1 84 0 - 1)) 71 0 (T.1 71 0 - 1)) c
def rgC (X : Lx) (A : StF) (i : Nat) (T : gSt) : gSt := if 0 ≤ rgQ X T (i + 1) then flT T 2 (nI (xP X (i + 1))) else rgL (A 0 0 0 (rgO T (xN X (i + 1)))) (4 + T.1 86 0)
/-- the two BLOCKS of an if -/
def prC (X : Lx) (A B : StF) (zb : Bool) (ys no : Int32) (i : Nat) (T : gSt) : gSt :=
  let T2 := A 0 0 0 (kwS T ys)
  if T2.1 7 0 = 0 then
    let T3 := kwS (rsS T2 (T.1 81 0) (T.1 82 0) (T.1 75 0) (T.1 83 0)) no
    let T4 := if zb = true then T3 else B 0 0 0 T3
    if T4.1 7 0 = 0 then mtS T4 (T2.1 81 0) (T2.1 82 0) (T2.1 75 0) (T2.1 83 0) (nI (xP X i)) else T4
  else T2
def ifC (X : Lx) (B : StF) (ta : Tr) (i : Nat) (T : gSt) : gSt := if (cdC X ta T).1 7 0 = 0 then B (akY X ta (cdC X ta T)) (akN X ta (cdC X ta T)) i (cdC X ta T) else cdC X ta T
def whO (X : Lx) (tb : Tr) (T : gSt) : gSt := if T.1 83 0 = 0 then T else sI T 82 0 (T.1 82 0 &&& (gvA X tb T 0 ^^^ (-1)))
def whC (X : Lx) (B : StF) (ta tb : Tr) (i : Nat) (T : gSt) : gSt :=
  let C := cdC X ta (whO X tb T)
  if C.1 7 0 = 0 then
    let T2 := B 0 0 0 (kwS C (akY X ta C))
    kwS (rsS (if T2.1 7 0 = 0 ∧ ¬ T2.1 83 0 = 0 ∧ ¬ T2.1 75 0 = C.1 75 0 then flT T2 8 (nI (xP X i)) else T2) (C.1 81 0) (C.1 82 0) (C.1 75 0) (C.1 83 0)) (akN X ta C)
  else C
def trO (T : gSt) : gSt := sI (sI T 85 (arn T) (-1)) 84 0 (nI (arn T + 1))
def trC (X : Lx) (A B : StF) (ta : Tr) (i : Nat) (T : gSt) : gSt :=
  let T2 := A 0 0 0 (trO T)
  let T3 := sI T2 84 0 (T2.1 84 0 - 1)
  if T3.1 7 0 = 0 then
    let T4 := rsS T3 (T.1 81 0) (if T.1 83 0 = 0 then T.1 82 0 else T.1 82 0 &&& (gvA X ta T 0 ^^^ (-1))) (T.1 75 0) (T.1 83 0)
    let T6 := B 0 0 0 (sI T4 87 0 (T4.1 87 0 + 1))
    let T7 := sI T6 87 0 (T6.1 87 0 - 1)
    if T7.1 7 0 = 0 then mtS T7 (T3.1 81 0) (T3.1 82 0) (T3.1 75 0) (T3.1 83 0) (nI (xP X i)) else T7
  else T3
def stN (X : Lx) (it : Nat) (A B : StF) (ta tb : Tr) (k i e : Nat) (ys no : Int32) (j : Nat) (T : gSt) : gSt :=
  if k = 31 then sI (A 0 0 0 T) 77 0 (T.1 77 0)
  else if k = 11 then (if T.1 7 0 = 0 then B 0 0 0 (A 0 0 0 T) else T)
  else if k = 12 then prC X A B (isZ tb) ys no j T
  else if k = 20 then (vaC X ta i e T).2
  else if k = 21 then ifC X B ta i T
  else if k = 22 then whC X B ta tb i T
  else if k = 23 then (rtC X ta i it T).2
  else if k = 24 then niT (chk X ta 0 0 T).2.2.2 (chk X ta 0 0 T).1 (plT X ta)
  else if k = 25 then spS (niT (chk X ta 0 0 T).2.2.2 (chk X ta 0 0 T).1 (plT X ta))
  else if k = 26 then rgC X A i T
  else if k = 27 then csC X i T
  else if k = 28 then trC X A B ta i T
  else if k = 29 then seC X ta tb T
  else (chk X ta 0 0 T).2.2.2
def stS (X : Lx) (it : Nat) : Tr → StF
  | .add (.add (.var k) (.add (.var i) (.var e))) (.add a b), ys, no, j, T => stN X it (stS X it a) (stS X it b) a b k i e ys no j T
  | _, _, _, _, T => T
/-- what STEPS leave as it was -/
def FS (T T' : gSt) : Prop := (∀ k, k < 65 → k ≠ 7 → k ≠ 8 → T'.1 k = T.1 k) ∧ (∀ k, k < 72 → T'.2 k = T.2 k) ∧ Trw T T' ∧ (¬ T.1 7 0 = 0 → ¬ T'.1 7 0 = 0)
section FSS
variable {T T' T'' : gSt} {X : Lx} {k i j e it : Nat} {v w c : Int32} {nm : Int64} {A B : StF} {ta tb : Tr}
theorem FS.rf : FS T T := ⟨fun _ _ _ _ => rfl, fun _ _ => rfl, Trw.rf, fun h => h⟩
theorem FS.tr (h : FS T T') (h2 : FS T' T'') : FS T T'' := ⟨fun k a b c => (h2.1 k a b c).trans (h.1 k a b c), fun k a => (h2.2.1 k a).trans (h.2.1 k a), h.2.2.1.tr h2.2.2.1, fun q => h2.2.2.2 (h.2.2.2 q)⟩
theorem FS.fe (h : FE T T') : FS T T' := ⟨fun k a b c => h.1 k (by omega), fun k _ => by rw [h.2.1], h.2.2.1, h.2.2.2⟩
theorem FS.wr (h : 71 ≤ k) : FS T (sI T k i v) := ⟨fun g a b c => sI_ne (by omega), fun _ _ => rfl, Trw.wr (by omega), fun q => by rw [sI_ne (by omega)]; exact q⟩
theorem FS.wj {k : Nat} (h : 72 ≤ k) : FS T (sJ T k i nm) := ⟨fun _ _ _ _ => rfl, fun g a => sJ_ne (by omega), fun g => ⟨g, Nat.le_refl _, fun _ _ _ => rfl⟩, fun q => q⟩
theorem FS.if2 {c : Prop} [Decidable c] {T1 T2 : gSt} (h1 : FS T T1) (h2 : FS T T2) : FS T (if c then T1 else T2) := by
  split
  · exact h1
  · exact h2
theorem FS.see {sl t : Int32} : FS T (seS T nm sl t) := (((FS.wj (by omega)).tr (FS.wr (by omega))).tr (FS.wr (by omega))).tr (FS.wr (by omega))
theorem FS.gv {sl t y has : Int32} : FS T (gvS T sl t y has) := (FS.wr (by omega)).tr (FS.wr (by omega))
theorem FS.sp : FS T (spS T) := ((FS.wr (by omega)).tr (FS.wr (by omega))).tr (FS.wr (by omega))
theorem FS.kw : FS T (kwS T v) := by
  unfold kwS
  exact FS.if2 FS.rf (FS.wr (by omega))
theorem FS.rs {st kw lv rc : Int32} : FS T (rsS T st kw lv rc) := (((FS.wr (by omega)).tr (FS.wr (by omega))).tr (FS.wr (by omega))).tr (FS.wr (by omega))
theorem FS.mt {st kw lv rc p : Int32} : FS T (mtS T st kw lv rc p) := by
  unfold mtS
  refine FS.if2 (FS.if2 ((FS.wr (by omega)).tr (FS.wr (by omega))) (((FS.fe (FE.fl (by decide))).tr (FS.wr (by omega))).tr (FS.wr (by omega)))) (FS.if2 FS.rs FS.rf)
theorem FS.dl : FS T (dlS T c) := FS.wr (by omega)
theorem FS.ar : ∀ (n : Nat) (T : gSt), FS T (arL v c n T) := by
  intro n
  induction n with
  | zero => intro T; exact FS.rf
  | succ n ih =>
    intro T
    rw [arL]
    exact FS.if2 FS.rf (FS.tr (FS.if2 (FS.fe (FE.fl (by decide))) FS.rf) (ih _))
theorem FS.cd : FS T (cdC X ta T) := by
  unfold cdC cnT
  refine FS.tr (FS.fe (chk_fe (X := X) ta 0 0 T)) ?_
  exact FS.if2 (FS.fe (FE.fl (by decide))) FS.rf
theorem FS.cs : FS T (csC X i T) := by
  unfold csC
  refine FS.if2 (FS.if2 ((FS.fe FE.sr).tr (FS.fe (FE.fl (by decide)))) ((FS.fe FE.sr).tr ((FS.ar _ _).tr FS.dl))) (FS.fe FE.sr)
theorem FS.va {v : Nat} : FS T (vaC X ta i v T).2 := by
  have h1 : FS T (vaM X T i).2 := FS.fe ((FE.wr (by omega)).tr (FE.me _ _ _))
  have h2 : FS (vaM X T i).2 (vaF X ta (vaM X T i).2 (vaM X T i).1) := by
    unfold vaF vaR
    by_cases z : isZ ta = true
    · rw [if_pos z]; exact FS.rf
    · simp only [if_neg z]
      exact FS.fe ((chk_fe (X := X) ta 0 0 _).tr FE.ft)
  unfold vaC
  refine (h1.tr h2).tr ?_
  unfold vaE
  exact FS.if2 (FS.if2 (FS.fe (FE.fl (by decide))) (FS.if2 FS.see (FS.see.tr FS.gv))) FS.rf
theorem FS.rt : FS T (rtC X ta i it T).2 := by
  have h1 : FS T (rtO T (isZ ta) it (nI (xP X i))) := by
    unfold rtO
    exact FS.if2 FS.rf (FS.fe (FE.fl (by decide)))
  unfold rtC
  by_cases c : (rtO T (isZ ta) it (nI (xP X i))).1 7 0 = 0
  · rw [if_pos c]
    by_cases z : isZ ta = true
    · rw [if_pos z]; exact FS.sp
    · rw [if_neg z]
      exact (FS.fe ((chk_fe (X := X) ta 0 0 _).tr FE.ft)).tr FS.sp
  · rw [if_neg c]; exact h1
theorem FS.se : FS T (seC X ta tb T) := by
  have h1 := FS.fe (chk_fe (X := X) tb 0 0 T)
  unfold seC svS
  refine FS.if2 (FS.if2 (FS.if2 (h1.tr (FS.if2 ((FS.fe FE.ft).tr FS.gv) (FS.fe FE.ft))) (h1.tr (FS.fe (FE.fl (by decide))))) (FS.if2 (h1.tr (FS.fe (((chk_fe ta 0 0 _).tr FE.td).tr FE.ft))) (h1.tr (FS.fe (FE.fl (by decide)))))) h1
abbrev FSf (A : StF) : Prop := ∀ p q n T, FS T (A p q n T)
theorem FS.rgo : FS T (rgO T nm) := (((((((FS.wr (by omega)).tr (FS.wr (by omega))).tr (FS.wj (by omega))).tr (FS.wr (by omega))).tr (FS.wr (by omega))).tr (FS.wr (by omega))).tr (FS.wr (by omega))).tr (FS.wr (by omega))
theorem FS.rgl : FS T (rgL T c) := ((FS.wr (by omega)).tr (FS.wr (by omega))).tr FS.dl
theorem FS.pr {ys no : Int32} {zb : Bool} (hA : FSf A) (hB : FSf B) : FS T (prC X A B zb ys no i T) := by
  unfold prC
  dsimp only
  have h1 : FS T (A 0 0 0 (kwS T ys)) := FS.kw.tr (hA _ _ _ _)
  generalize A 0 0 0 (kwS T ys) = T2 at *
  have h2 : FS T (kwS (rsS T2 (T.1 81 0) (T.1 82 0) (T.1 75 0) (T.1 83 0)) no) := (h1.tr FS.rs).tr FS.kw
  generalize kwS (rsS T2 (T.1 81 0) (T.1 82 0) (T.1 75 0) (T.1 83 0)) no = T3 at *
  have h3 : FS T (if zb = true then T3 else B 0 0 0 T3) := FS.if2 h2 (h2.tr (hB _ _ _ _))
  exact FS.if2 (FS.if2 (h3.tr FS.mt) h3) h1
theorem FS.wh (hB : FSf B) : FS T (whC X B ta tb i T) := by
  unfold whC
  dsimp only
  have h0 : FS T (whO X tb T) := by
    unfold whO
    exact FS.if2 FS.rf (FS.wr (by omega))
  have h1 : FS T (cdC X ta (whO X tb T)) := h0.tr FS.cd
  generalize cdC X ta (whO X tb T) = C at *
  have h2 : FS T (B 0 0 0 (kwS C (akY X ta C))) := h1.tr (FS.kw.tr (hB _ _ _ _))
  generalize B 0 0 0 (kwS C (akY X ta C)) = T2 at *
  exact FS.if2 (((h2.tr (FS.if2 (FS.fe (FE.fl (by decide))) FS.rf)).tr FS.rs).tr FS.kw) h1
theorem FS.ty (hA : FSf A) (hB : FSf B) : FS T (trC X A B ta i T) := by
  unfold trC
  dsimp only
  have h1 : FS T (A 0 0 0 (trO T)) := ((FS.wr (by omega)).tr (FS.wr (by omega))).tr (hA _ _ _ _)
  generalize A 0 0 0 (trO T) = T2 at *
  have h2 : FS T (sI T2 84 0 (T2.1 84 0 - 1)) := h1.tr (FS.wr (by omega))
  generalize sI T2 84 0 (T2.1 84 0 - 1) = T3 at *
  have h3 : FS T (rsS T3 (T.1 81 0) (if T.1 83 0 = 0 then T.1 82 0 else T.1 82 0 &&& (gvA X ta T 0 ^^^ (-1))) (T.1 75 0) (T.1 83 0)) := h2.tr FS.rs
  generalize rsS T3 (T.1 81 0) (if T.1 83 0 = 0 then T.1 82 0 else T.1 82 0 &&& (gvA X ta T 0 ^^^ (-1))) (T.1 75 0) (T.1 83 0) = T4 at *
  have h4 : FS T (B 0 0 0 (sI T4 87 0 (T4.1 87 0 + 1))) := (h3.tr (FS.wr (by omega))).tr (hB _ _ _ _)
  generalize B 0 0 0 (sI T4 87 0 (T4.1 87 0 + 1)) = T6 at *
  have h5 : FS T (sI T6 87 0 (T6.1 87 0 - 1)) := h4.tr (FS.wr (by omega))
  exact FS.if2 (FS.if2 (h5.tr FS.mt) h5) h2
theorem stS_n {ys no : Int32} : stS X it (tD k i e ta tb) ys no j T = stN X it (stS X it ta) (stS X it tb) ta tb k i e ys no j T := rfl
theorem stS_z {t : Tr} {ys no : Int32} (h : ∀ k i e a b, t ≠ tD k i e a b) : stS X it t ys no j T = T := by
  unfold stS
  split
  · rename_i k i e a b
    exact absurd rfl (h k i e a b)
  · rfl
theorem st_fs (t : Tr) : FSf (stS X it t) := by
  induction t using Tr_ind with
  | hz t hz =>
    intro p q n T
    rw [stS_z hz]
    exact FS.rf
  | h k i e ta tb ihA ihB =>
    intro p q n T
    rw [stS_n]
    unfold stN
    refine FS.if2 ((ihA _ _ _ _).tr (FS.wr (by omega))) (FS.if2 (FS.if2 ((ihA _ _ _ _).tr (ihB _ _ _ _)) FS.rf) (FS.if2 (FS.pr ihA ihB) (FS.if2 FS.va (FS.if2 ?_ (FS.if2 (FS.wh ihB) (FS.if2 FS.rt (FS.if2 ?_ (FS.if2 ?_ (FS.if2 ?_ (FS.if2 FS.cs (FS.if2 (FS.ty ihA ihB) (FS.if2 FS.se (FS.fe (chk_fe ta 0 0 T))))))))))))))
    · unfold ifC
      exact FS.if2 (FS.cd.tr (ihB _ _ _ _)) FS.cd
    · exact FS.fe ((chk_fe (X := X) ta 0 0 T).tr FE.ni)
    · exact (FS.fe ((chk_fe (X := X) ta 0 0 T).tr FE.ni)).tr FS.sp
    · unfold rgC
      exact FS.if2 (FS.fe (FE.fl (by decide))) ((FS.rgo.tr (ihA _ _ _ _)).tr FS.rgl)
end FSS
