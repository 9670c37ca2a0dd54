/-! what STEPS, heads and funs leave as it was: the reference's running machine -/
def F9 (T T' : gSt) : Prop := ∀ k, 93 ≤ k → T'.1 k = T.1 k
section FNF
variable {T T' T'' S : gSt} {X : Lx} {k i j e it : Nat} {v w c : Int32} {nm : Int64} {A B : StF} {ta tb : Tr}
theorem F9.rf : F9 T T := fun _ _ => rfl
theorem F9.tr (h : F9 T T') (h2 : F9 T' T'') : F9 T T'' := fun k a => (h2 k a).trans (h k a)
theorem F9.fe (h : FE T T') : F9 T T' := fun k a => h.1 k (by omega)
theorem F9.wr (h : k < 93) : F9 T (sI T k i v) := fun g a => sI_ne (by omega)
theorem F9.wj {k : Nat} (h : 72 ≤ k) : F9 T (sJ T k i nm) := fun _ _ => rfl
theorem F9.if2 {c : Prop} [Decidable c] {T1 T2 : gSt} (h1 : F9 T T1) (h2 : F9 T T2) : F9 T (if c then T1 else T2) := by
  split
  · exact h1
  · exact h2
theorem F9.see {sl t : Int32} : F9 T (seS T nm sl t) := (((F9.wj (by omega)).tr (F9.wr (by omega))).tr (F9.wr (by omega))).tr (F9.wr (by omega))
theorem F9.gv {sl t y has : Int32} : F9 T (gvS T sl t y has) := (F9.wr (by omega)).tr (F9.wr (by omega))
theorem F9.sp : F9 T (spS T) := ((F9.wr (by omega)).tr (F9.wr (by omega))).tr (F9.wr (by omega))
theorem F9.kw : F9 T (kwS T v) := by
  unfold kwS
  exact F9.if2 F9.rf (F9.wr (by omega))
theorem F9.rs {st kw lv rc : Int32} : F9 T (rsS T st kw lv rc) := (((F9.wr (by omega)).tr (F9.wr (by omega))).tr (F9.wr (by omega))).tr (F9.wr (by omega))
theorem F9.mt {st kw lv rc p : Int32} : F9 T (mtS T st kw lv rc p) := by
  unfold mtS
  refine F9.if2 (F9.if2 ((F9.wr (by omega)).tr (F9.wr (by omega))) (((F9.fe (FE.fl (by decide))).tr (F9.wr (by omega))).tr (F9.wr (by omega)))) (F9.if2 F9.rs F9.rf)
theorem F9.dl : F9 T (dlS T c) := F9.wr (by omega)
theorem F9.ar : ∀ (n : Nat) (T : gSt), F9 T (arL v c n T) := by
  intro n
  induction n with
  | zero => intro T; exact F9.rf
  | succ n ih =>
    intro T
    rw [arL]
    exact F9.if2 F9.rf (F9.tr (F9.if2 (F9.fe (FE.fl (by decide))) F9.rf) (ih _))
theorem F9.cd : F9 T (cdC X ta T) := by
  unfold cdC cnT
  refine F9.tr (F9.fe (chk_fe (X := X) ta 0 0 T)) ?_
  exact F9.if2 (F9.fe (FE.fl (by decide))) F9.rf
theorem F9.cs : F9 T (csC X i T) := by
  unfold csC
  refine F9.if2 (F9.if2 ((F9.fe FE.sr).tr (F9.fe (FE.fl (by decide)))) ((F9.fe FE.sr).tr ((F9.ar _ _).tr F9.dl))) (F9.fe FE.sr)
theorem F9.va {v : Nat} : F9 T (vaC X ta i v T).2 := by
  have h1 : F9 T (vaM X T i).2 := F9.fe ((FE.wr (by omega)).tr (FE.me _ _ _))
  have h2 : F9 (vaM X T i).2 (vaF X ta (vaM X T i).2 (vaM X T i).1) := by
    unfold vaF vaR
    by_cases z : isZ ta = true
    · rw [if_pos z]; exact F9.rf
    · simp only [if_neg z]
      exact F9.fe ((chk_fe (X := X) ta 0 0 _).tr FE.ft)
  unfold vaC
  refine (h1.tr h2).tr ?_
  unfold vaE
  exact F9.if2 (F9.if2 (F9.fe (FE.fl (by decide))) (F9.if2 F9.see (F9.see.tr F9.gv))) F9.rf
theorem F9.rt : F9 T (rtC X ta i it T).2 := by
  have h1 : F9 T (rtO T (isZ ta) it (nI (xP X i))) := by
    unfold rtO
    exact F9.if2 F9.rf (F9.fe (FE.fl (by decide)))
  unfold rtC
  by_cases c : (rtO T (isZ ta) it (nI (xP X i))).1 7 0 = 0
  · rw [if_pos c]
    by_cases z : isZ ta = true
    · rw [if_pos z]; exact F9.sp
    · rw [if_neg z]
      exact (F9.fe ((chk_fe (X := X) ta 0 0 _).tr FE.ft)).tr F9.sp
  · rw [if_neg c]; exact h1
theorem F9.se : F9 T (seC X ta tb T) := by
  have h1 := F9.fe (chk_fe (X := X) tb 0 0 T)
  unfold seC svS
  refine F9.if2 (F9.if2 (F9.if2 (h1.tr (F9.if2 ((F9.fe FE.ft).tr F9.gv) (F9.fe FE.ft))) (h1.tr (F9.fe (FE.fl (by decide))))) (F9.if2 (h1.tr (F9.fe (((chk_fe ta 0 0 _).tr FE.td).tr FE.ft))) (h1.tr (F9.fe (FE.fl (by decide)))))) h1
abbrev F9f (A : StF) : Prop := ∀ p q n T, F9 T (A p q n T)
theorem F9.rgo : F9 T (rgO T nm) := (((((((F9.wr (by omega)).tr (F9.wr (by omega))).tr (F9.wj (by omega))).tr (F9.wr (by omega))).tr (F9.wr (by omega))).tr (F9.wr (by omega))).tr (F9.wr (by omega))).tr (F9.wr (by omega))
theorem F9.rgl : F9 T (rgL T c) := ((F9.wr (by omega)).tr (F9.wr (by omega))).tr F9.dl
theorem F9.pr {ys no : Int32} {zb : Bool} (hA : F9f A) (hB : F9f B) : F9 T (prC X A B zb ys no i T) := by
  unfold prC
  dsimp only
  have h1 : F9 T (A 0 0 0 (kwS T ys)) := F9.kw.tr (hA _ _ _ _)
  generalize A 0 0 0 (kwS T ys) = T2 at *
  have h2 : F9 T (kwS (rsS T2 (T.1 81 0) (T.1 82 0) (T.1 75 0) (T.1 83 0)) no) := (h1.tr F9.rs).tr F9.kw
  generalize kwS (rsS T2 (T.1 81 0) (T.1 82 0) (T.1 75 0) (T.1 83 0)) no = T3 at *
  have h3 : F9 T (if zb = true then T3 else B 0 0 0 T3) := F9.if2 h2 (h2.tr (hB _ _ _ _))
  exact F9.if2 (F9.if2 (h3.tr F9.mt) h3) h1
theorem F9.wh (hB : F9f B) : F9 T (whC X B ta tb i T) := by
  unfold whC
  dsimp only
  have h0 : F9 T (whO X tb T) := by
    unfold whO
    exact F9.if2 F9.rf (F9.wr (by omega))
  have h1 : F9 T (cdC X ta (whO X tb T)) := h0.tr F9.cd
  generalize cdC X ta (whO X tb T) = C at *
  have h2 : F9 T (B 0 0 0 (kwS C (akY X ta C))) := h1.tr (F9.kw.tr (hB _ _ _ _))
  generalize B 0 0 0 (kwS C (akY X ta C)) = T2 at *
  exact F9.if2 (((h2.tr (F9.if2 (F9.fe (FE.fl (by decide))) F9.rf)).tr F9.rs).tr F9.kw) h1
theorem F9.ty (hA : F9f A) (hB : F9f B) : F9 T (trC X A B ta i T) := by
  unfold trC
  dsimp only
  have h1 : F9 T (A 0 0 0 (trO T)) := ((F9.wr (by omega)).tr (F9.wr (by omega))).tr (hA _ _ _ _)
  generalize A 0 0 0 (trO T) = T2 at *
  have h2 : F9 T (sI T2 84 0 (T2.1 84 0 - 1)) := h1.tr (F9.wr (by omega))
  generalize sI T2 84 0 (T2.1 84 0 - 1) = T3 at *
  have h3 : F9 T (rsS T3 (T.1 81 0) (if T.1 83 0 = 0 then T.1 82 0 else T.1 82 0 &&& (gvA X ta T 0 ^^^ (-1))) (T.1 75 0) (T.1 83 0)) := h2.tr F9.rs
  generalize rsS T3 (T.1 81 0) (if T.1 83 0 = 0 then T.1 82 0 else T.1 82 0 &&& (gvA X ta T 0 ^^^ (-1))) (T.1 75 0) (T.1 83 0) = T4 at *
  have h4 : F9 T (B 0 0 0 (sI T4 87 0 (T4.1 87 0 + 1))) := (h3.tr (F9.wr (by omega))).tr (hB _ _ _ _)
  generalize B 0 0 0 (sI T4 87 0 (T4.1 87 0 + 1)) = T6 at *
  have h5 : F9 T (sI T6 87 0 (T6.1 87 0 - 1)) := h4.tr (F9.wr (by omega))
  exact F9.if2 (F9.if2 (h5.tr F9.mt) h5) h2
theorem st_f9 (t : Tr) : F9f (stS X it t) := by
  induction t using Tr_ind with
  | hz t hz =>
    intro p q n T
    rw [stS_z hz]
    exact F9.rf
  | h k i e ta tb ihA ihB =>
    intro p q n T
    rw [stS_n]
    unfold stN
    refine F9.if2 ((ihA _ _ _ _).tr (F9.wr (by omega))) (F9.if2 (F9.if2 ((ihA _ _ _ _).tr (ihB _ _ _ _)) F9.rf) (F9.if2 (F9.pr ihA ihB) (F9.if2 F9.va (F9.if2 ?_ (F9.if2 (F9.wh ihB) (F9.if2 F9.rt (F9.if2 ?_ (F9.if2 ?_ (F9.if2 ?_ (F9.if2 F9.cs (F9.if2 (F9.ty ihA ihB) (F9.if2 F9.se (F9.fe (chk_fe ta 0 0 T))))))))))))))
    · unfold ifC
      exact F9.if2 (F9.cd.tr (ihB _ _ _ _)) F9.cd
    · exact F9.fe ((chk_fe (X := X) ta 0 0 T).tr FE.ni)
    · exact (F9.fe ((chk_fe (X := X) ta 0 0 T).tr FE.ni)).tr F9.sp
    · unfold rgC
      exact F9.if2 (F9.fe (FE.fl (by decide))) ((F9.rgo.tr (ihA _ _ _ _)).tr F9.rgl)
theorem F9.fq {it c n w : Nat} : F9 S (fnC it c n w S) := fun k hk => by
  unfold fnC
  rw [pa_o k (by omega) (by omega) (by omega) (by omega), fnB_88 (by omega)]
theorem F9.fne {it : Nat} : F9 S (fnE it S) := by
  unfold fnE
  repeat' split
  all_goals first | exact F9.rf | exact fun k hk => flT_o (by omega) (by omega)
theorem F9.fns : ∀ (xs : List It) (t c : Nat) (S : gSt), F9 S (fnsL X xs t c S) := by
  intro xs
  induction xs with
  | nil => intro t c S; exact F9.rf
  | cons x xs ih =>
    intro t c S
    rw [fnsL]
    split
    · refine F9.tr ?_ (ih _ _ _)
      unfold fnI
      split
      · unfold fnS
        exact (F9.fq.tr (st_f9 _ 0 0 0 _)).tr F9.fne
      · exact F9.rf
    · exact F9.rf
theorem F9.hds {its : List It} : F9 S (hdsS X its S) := fun k hk => by
  unfold hdsS
  rw [mn_o (by omega) (by omega), c88.hds its 0 0 _ k (by omega), sI_ne (by omega)]
end FNF
