/-! what holds all along STEPS without a fault -/
/-- what the checks of later funs leave as it was -/
def FW (T T' : gSt) : Prop := (∀ k, k < 64 → k ≠ 7 → k ≠ 8 → T'.1 k = T.1 k) ∧ Trw T T' ∧ (¬ T.1 7 0 = 0 → ¬ T'.1 7 0 = 0)
theorem FS.fw {T T' : gSt} (h : FS T T') : FW T T' := ⟨fun k a b c => h.1 k (by omega) b c, h.2.2.1, h.2.2.2⟩
theorem FW.tr {T T' T1 : gSt} (h : FW T T') (h2 : FW T' T1) : FW T T1 := ⟨fun k a b c => (h2.1 k a b c).trans (h.1 k a b c), h.2.1.tr h2.2.1, fun q => h2.2.2 (h.2.2 q)⟩
theorem FS.trw {T T' T1 : gSt} (h : FS T T') (h2 : FW T' T1) : FW T T1 := h.fw.tr h2
theorem FW.tg {T T' : gSt} (h : FW T T') (g : Tg T) : Tg T' := (h.2.1 g).1
theorem FW.lt {T T' : gSt} (h : FW T T') (g : Tg T) (c : cn T' < 6000) : cn T < 6000 := Nat.lt_of_le_of_lt (h.2.1 g).2.1 c
theorem FW.ok {T T' : gSt} (h : FW T T') (c : T'.1 7 0 = 0) : T.1 7 0 = 0 := Decidable.byContradiction fun q => h.2.2 q c
theorem FW.einn {T T' : gSt} (h : FW T T') : inn T' = inn T := by
  unfold inn
  rw [h.1 11 (by omega) (by omega) (by omega)]
def GE (X : Lx) (Tf : gSt) (t : Tr) (S : gSt) : Prop := (∃ lo hi, Wb X t false lo hi ∧ dpT t ≤ 40) ∧ Ck S ∧ S.1 7 0 = 0 ∧ (chk X t 0 0 S).2.2.2.1 7 0 = 0 ∧ FW (chk X t 0 0 S).2.2.2 Tf
def prE (A : StF) (ys no : Int32) (S : gSt) : gSt := kwS (rsS (A 0 0 0 (kwS S ys)) (S.1 81 0) (S.1 82 0) (S.1 75 0) (S.1 83 0)) no
def GkN (X : Lx) (Tf : gSt) (A B : StF) (Ga Gb : Int32 → Int32 → Nat → gSt → Prop) (ta tb : Tr) (k i : Nat) (ys no : Int32) (S : gSt) : Prop :=
  if k = 20 then isZ ta = true ∨ GE X Tf ta (vaM X S i).2
  else if k = 21 then GE X Tf ta S ∧ Gb (akY X ta (cdC X ta S)) (akN X ta (cdC X ta S)) i (cdC X ta S)
  else if k = 12 then Ga 0 0 0 (kwS S ys) ∧ (isZ tb = true ∨ Gb 0 0 0 (prE A ys no S))
  else if k = 22 then GE X Tf ta (whO X tb S) ∧ Gb 0 0 0 (kwS (cdC X ta (whO X tb S)) (akY X ta (cdC X ta (whO X tb S))))
  else if k = 23 then isZ ta = true ∨ GE X Tf ta S
  else if k = 24 ∨ k = 25 ∨ k = 30 then GE X Tf ta S
  else if k = 29 then GE X Tf tb S ∧ (tkd X ta = 4 ∨ (tkd X ta = 14 ∨ tkd X ta = 15 ∨ tkd X ta = 16) ∧ GE X Tf ta (chk X tb 0 0 S).2.2.2)
  else if k = 26 then Ga 0 0 0 (rgO S (xN X (i + 1)))
  else if k = 28 then Ga 0 0 0 (trO S) ∧ Gb 0 0 0 (trM X A ta S)
  else if k = 31 then Ga 0 0 0 S
  else if k = 11 then Ga 0 0 0 S ∧ Gb 0 0 0 (A 0 0 0 S)
  else True
def WsI (X : Lx) (t : Tr) (S : gSt) : Prop := ∃ m a b v g v' g' n N, Ws X t m a b v g v' g' ∧ b < 100000 ∧ N + bdT t ≤ bL m ∧ n ≤ N ∧ SI S v g n
def Gk (X : Lx) (it : Nat) (Tf : gSt) : Tr → Int32 → Int32 → Nat → gSt → Prop
  | .add (.add (.var k) (.add (.var i) (.var e))) (.add a b), ys, no, j, S => WsI X (tD k i e a b) S ∧ S.1 7 0 = 0 ∧ FW (stS X it (tD k i e a b) ys no j S) Tf ∧ GkN X Tf (stS X it a) (stS X it b) (Gk X it Tf a) (Gk X it Tf b) a b k i ys no S
  | _, _, _, _, _ => True
section GSS
variable {T Tf : gSt} {X : Lx} {it i j e k n v g : Nat} {A B : StF} {ta tb : Tr} {ys no c : Int32}
theorem Gk_n : Gk X it Tf (tD k i e ta tb) ys no j T = (WsI X (tD k i e ta tb) T ∧ T.1 7 0 = 0 ∧ FW (stS X it (tD k i e ta tb) ys no j T) Tf ∧ GkN X Tf (stS X it ta) (stS X it tb) (Gk X it Tf ta) (Gk X it Tf tb) ta tb k i ys no T) := rfl
theorem Gk_z {t : Tr} (h : ∀ k i e a b, t ≠ tD k i e a b) : Gk X it Tf t ys no j T := by
  unfold Gk
  split
  · rename_i k i e a b
    exact absurd rfl (h k i e a b)
  · trivial
theorem FS.cd2 : FS (chk X ta 0 0 T).2.2.2 (cdC X ta T) := by
  unfold cdC cnT
  exact FS.if2 (FS.fe (FE.fl (by decide))) FS.rf
theorem FS.pr1 {zb : Bool} (hB : FSf B) : FS (A 0 0 0 (kwS T ys)) (prC X A B zb ys no i T) := by
  unfold prC
  dsimp only
  generalize A 0 0 0 (kwS T ys) = T2 at *
  have h2 : FS T2 (kwS (rsS T2 (T.1 81 0) (T.1 82 0) (T.1 75 0) (T.1 83 0)) no) := FS.rs.tr FS.kw
  generalize kwS (rsS T2 (T.1 81 0) (T.1 82 0) (T.1 75 0) (T.1 83 0)) no = T3 at *
  have h3 : FS T2 (if zb = true then T3 else B 0 0 0 T3) := FS.if2 h2 (h2.tr (hB _ _ _ _))
  exact FS.if2 (FS.if2 (h3.tr FS.mt) h3) FS.rf
theorem FS.pr2 (h : (A 0 0 0 (kwS T ys)).1 7 0 = 0) : FS (B 0 0 0 (prE A ys no T)) (prC X A B false ys no i T) := by
  unfold prC prE
  dsimp only
  rw [if_pos h]
  simp only [if_neg (show ¬ (false = true) by decide)]
  exact FS.if2 FS.mt FS.rf
theorem FS.wh1 (hB : FSf B) : FS (cdC X ta (whO X tb T)) (whC X B ta tb i T) := by
  unfold whC
  dsimp only
  generalize cdC X ta (whO X tb T) = C at *
  have h2 : FS C (B 0 0 0 (kwS C (akY X ta C))) := FS.kw.tr (hB _ _ _ _)
  generalize B 0 0 0 (kwS C (akY X ta C)) = T2 at *
  exact FS.if2 (((h2.tr (FS.if2 (FS.fe (FE.fl (by decide))) FS.rf)).tr FS.rs).tr FS.kw) FS.rf
theorem FS.wh2 (h : (cdC X ta (whO X tb T)).1 7 0 = 0) : FS (B 0 0 0 (kwS (cdC X ta (whO X tb T)) (akY X ta (cdC X ta (whO X tb T))))) (whC X B ta tb i T) := by
  unfold whC
  dsimp only
  rw [if_pos h]
  exact ((FS.if2 (FS.fe (FE.fl (by decide))) FS.rf).tr FS.rs).tr FS.kw
theorem FS.ty1 (hB : FSf B) : FS (A 0 0 0 (trO T)) (trC X A B ta i T) := by
  unfold trC
  dsimp only
  generalize A 0 0 0 (trO T) = T2 at *
  have h2 : FS T2 (sI T2 84 0 (T2.1 84 0 - 1)) := FS.wr (by omega)
  generalize sI T2 84 0 (T2.1 84 0 - 1) = T3 at *
  have h3 : FS T2 (rsS T3 (T.1 81 0) (if T.1 83 0 = 0 then T.1 82 0 else T.1 82 0 &&& (gvA X ta T 0 ^^^ (-1))) (T.1 75 0) (T.1 83 0)) := h2.tr FS.rs
  generalize rsS T3 (T.1 81 0) (if T.1 83 0 = 0 then T.1 82 0 else T.1 82 0 &&& (gvA X ta T 0 ^^^ (-1))) (T.1 75 0) (T.1 83 0) = T4 at *
  have h4 : FS T2 (B 0 0 0 (sI T4 87 0 (T4.1 87 0 + 1))) := (h3.tr (FS.wr (by omega))).tr (hB _ _ _ _)
  generalize B 0 0 0 (sI T4 87 0 (T4.1 87 0 + 1)) = T6 at *
  have h5 : FS T2 (sI T6 87 0 (T6.1 87 0 - 1)) := h4.tr (FS.wr (by omega))
  exact FS.if2 (FS.if2 (h5.tr FS.mt) h5) h2
theorem FS.ty2 (h : (A 0 0 0 (trO T)).1 7 0 = 0) : FS (B 0 0 0 (trM X A ta T)) (trC X A B ta i T) := by
  have h3 : (sI (A 0 0 0 (trO T)) 84 0 ((A 0 0 0 (trO T)).1 84 0 - 1)).1 7 0 = 0 := by rw [sI_ne (by omega)]; exact h
  unfold trC trM
  dsimp only
  rw [if_pos h3]
  exact FS.if2 ((FS.wr (by omega)).tr FS.mt) (FS.wr (by omega))
theorem ge_of {lo hi : Nat} (hw : Wf X ta false lo hi) (hb : hi < 100000) (hd : dpT ta ≤ 40) (hC : Ck T) (h0 : Tf.1 7 0 = 0) (hF : FW (chk X ta 0 0 T).2.2.2 Tf) : GE X Tf ta T := by
  have k := hF.ok h0
  exact ⟨⟨lo, hi, ⟨hw, hb⟩, hd⟩, hC, (chk_fe (X := X) ta 0 0 T).ok k, k, hF⟩
theorem st_gs (hcf : cn Tf < 6000) (hf0 : Tf.1 7 0 = 0) (t : Tr) : ∀ (m a b v g v' g' N n : Nat) (ys no : Int32) (j : Nat) (T : gSt), Ws X t m a b v g v' g' → b < 100000 → N + bdT t ≤ bL m → n ≤ N → SI T v g n → FW (stS X it t ys no j T) Tf → Gk X it Tf t ys no j T := by
  induction t using Tr_ind with
  | hz t hz =>
    intro m a b v g v' g' N n ys no j T _ _ _ _ _ _
    exact Gk_z hz
  | h k i e ta tb ihA ihB =>
    intro m a b v g v' g' N n ys no j T hw hb hN hn h hF
    have fA := st_fs (X := X) (it := it) ta
    have fB := st_fs (X := X) (it := it) tb
    have h0 := (st_fs (X := X) (it := it) (tD k i e ta tb) ys no j T).ok (hF.ok hf0)
    have gT := h.1.1
    rw [Gk_n]
    refine ⟨⟨m, a, b, v, g, v', g', n, N, hw, hb, hN, hn, h⟩, h0, hF, ?_⟩
    rw [stS_n] at hF
    rw [Ws_n] at hw
    rw [bdT_n] at hN
    unfold WsN at hw
    unfold bL at hN ihA ihB
    unfold GkN
    by_cases m2 : m = 2
    · rw [if_pos m2] at hw hN
      obtain ⟨rfl, hw, hib⟩ := hw
      rw [if_pos rfl] at hN
      have e0 : stN X it (stS X it ta) (stS X it tb) ta tb 31 i e ys no j T = sI (stS X it ta 0 0 0 T) 77 0 (T.1 77 0) := rfl
      rw [e0] at hF
      have mo := Ws_mo _ _ _ _ _ _ _ _ hw
      exact ihA 1 _ _ _ _ _ _ N n 0 0 0 T hw (by omega) (by rw [if_neg (by omega)]; omega) hn h (FS.trw (FS.wr (by omega)) hF)
    rw [if_neg m2] at hw hN
    by_cases m1 : m = 1
    · rw [if_pos m1] at hw
      obtain ⟨rfl, c, v1, g1, hwa, hwb⟩ := hw
      rw [if_neg (by omega), if_pos (Or.inl rfl)] at hN
      have e0 : stN X it (stS X it ta) (stS X it tb) ta tb 11 i e ys no j T = if T.1 7 0 = 0 then stS X it tb 0 0 0 (stS X it ta 0 0 0 T) else T := rfl
      rw [e0, if_pos h0] at hF
      have mo := Ws_mo _ _ _ _ _ _ _ _ hwb
      have f1 := fA 0 0 0 T
      have f2 := (fB 0 0 0 (stS X it ta 0 0 0 T)).trw hF
      have c1 := f2.lt (f1.tg gT) hcf
      have s1 := st_inv ta 0 _ _ _ _ _ _ N hwa (by omega) (by unfold bL; rw [if_neg (by omega)]; omega) 0 0 0 n T hn h c1 (f2.ok hf0)
      exact ⟨ihA 0 _ _ _ _ _ _ N n 0 0 0 T hwa (by omega) (by rw [if_neg (by omega)]; omega) hn h f2, ihB 1 _ _ _ _ _ _ N n 0 0 0 _ hwb (by omega) (by rw [if_neg (by omega)]; omega) hn s1.1 hF⟩
    rw [if_neg m1] at hw
    by_cases m3 : m = 3
    · rw [if_pos m3] at hw
      obtain ⟨rfl, c, v1, g1, hwa, hwb⟩ := hw
      rw [if_neg (by omega), if_pos (Or.inr (Or.inl rfl))] at hN
      have e0 : stN X it (stS X it ta) (stS X it tb) ta tb 12 i e ys no j T = prC X (stS X it ta) (stS X it tb) (isZ tb) ys no j T := rfl
      rw [e0] at hF
      have cb : c ≤ b := by
        split at hwb
        · exact hwb.2.2
        · have := Ws_mo _ _ _ _ _ _ _ _ hwb; omega
      have sk := h.fo (FO.kw (p := ys)) (by rw [kw_83]; exact h.2.2.1)
      have fk : FS T (kwS T ys) := FS.kw
      have f2 := (FS.pr1 (X := X) (A := stS X it ta) (ys := ys) (no := no) (i := j) (T := T) (zb := isZ tb) fB).trw hF
      have gk := fk.tg gT
      have o2 := f2.ok hf0
      have c2 := f2.lt ((fA 0 0 0 _).tg gk) hcf
      have s2 := st_inv ta 2 _ _ _ _ _ _ N hwa (by omega) (by unfold bL; rw [if_pos rfl]; omega) 0 0 0 n _ hn sk.1 c2 o2
      refine ⟨ihA 2 _ _ _ _ _ _ N n 0 0 0 _ hwa (by omega) (by rw [if_pos rfl]; omega) hn sk.1 f2, ?_⟩
      by_cases z : isZ tb = true
      · exact Or.inl z
      · right
        rw [if_neg z] at hwb
        have z' : isZ tb = false := by
          cases q : isZ tb
          · rfl
          · exact absurd q z
        rw [z'] at hF
        have f3 := (FS.pr2 (X := X) (A := stS X it ta) (B := stS X it tb) (ys := ys) (no := no) (i := j) (T := T) o2).trw hF
        have s3 := s2.1.fo (T' := prE (stS X it ta) ys no T) (FO.rs.tr FO.kw) (by unfold prE; rw [kw_83, rs_83]; exact h.2.2.1)
        exact ihB 2 _ _ _ _ _ _ N n 0 0 0 _ hwb (by omega) (by rw [if_pos rfl]; omega) hn s3.1 f3
    rw [if_neg m3] at hw
    by_cases k20 : k = 20
    · rw [if_pos k20] at hw ⊢
      subst k20
      obtain ⟨h1, rfl, h3, rfl, rfl, h6, h7⟩ := hw
      have e0 : stN X it (stS X it ta) (stS X it tb) ta tb 20 i e ys no j T = (vaC X ta i e T).2 := rfl
      rw [e0] at hF
      by_cases z : isZ ta = true
      · exact Or.inl z
      · right
        rw [if_neg z] at h7
        obtain ⟨c, h8, h9⟩ := h7
        have fM : FE T (vaM X T i).2 := (FE.wr (by omega)).tr (FE.me _ _ _)
        have gM := fM.tg gT
        have f1 : FS (chk X ta 0 0 (vaM X T i).2).2.2.2 (vaC X ta i e T).2 := by
          unfold vaC vaF vaR
          simp only [if_neg z]
          refine FS.tr (T' := ftS (chk X ta 0 0 (vaM X T i).2).2.2.2 (chk X ta 0 0 (vaM X T i).2).1 (vaM X T i).1 (plT X ta)) (FS.fe FE.ft) ?_
          unfold vaE
          exact FS.if2 (FS.if2 (FS.fe (FE.fl (by decide))) (FS.if2 FS.see (FS.see.tr FS.gv))) FS.rf
        have f2 := f1.trw hF
        have cq := f2.lt ((chk_fe (X := X) ta 0 0 _).tg gM) hcf
        have cM := (chk_fe (X := X) ta 0 0 (vaM X T i).2).lt gM cq
        have c0 : cn T < 6000 := fM.lt gT cM
        have hm := (h.1.wr (k := 92) (i := 0) (v := T.1 92 0 + 1) (by omega) c0).me h6 cM
        exact ge_of h8.1 (by omega) h8.2 hm.1 hf0 f2
    rw [if_neg k20] at hw ⊢
    by_cases k21 : k = 21
    · rw [if_pos k21] at hw ⊢
      subst k21
      rw [if_neg (by omega), if_neg (by omega), if_pos (Or.inl rfl)] at hN
      obtain ⟨h1, c, h2, h3⟩ := hw
      have mo := Ws_mo _ _ _ _ _ _ _ _ h3
      have e0 : stN X it (stS X it ta) (stS X it tb) ta tb 21 i e ys no j T = ifC X (stS X it tb) ta i T := rfl
      rw [e0] at hF
      have f1 : FS (cdC X ta T) (ifC X (stS X it tb) ta i T) := by
        unfold ifC
        exact FS.if2 (fB _ _ _ _) FS.rf
      have f2 := f1.trw hF
      have o2 := f2.ok hf0
      have c1 := f2.lt ((FS.cd (X := X) (ta := ta)).tg gT) hcf
      have s1 := si_cd h2.1 (by omega) h c1
      refine ⟨ge_of h2.1 (by omega) h2.2 h.1 hf0 (FS.cd2.trw f2), ?_⟩
      unfold ifC at hF
      rw [if_pos o2] at hF
      exact ihB 3 _ _ _ _ _ _ N n _ _ _ _ h3 (by omega) (by rw [if_neg (by omega)]; omega) hn s1.1 hF
    rw [if_neg k21] at hw ⊢
    by_cases k12 : k = 12
    · subst k12
      repeat rw [if_neg (by omega)] at hw
      exact hw.elim
    rw [if_neg k12]
    by_cases k22 : k = 22
    · rw [if_pos k22] at hw ⊢
      subst k22
      rw [if_neg (by omega), if_neg (by omega), if_pos (Or.inr rfl)] at hN
      obtain ⟨h1, c, h2, h3⟩ := hw
      have mo := Ws_mo _ _ _ _ _ _ _ _ h3
      have e0 : stN X it (stS X it ta) (stS X it tb) ta tb 22 i e ys no j T = whC X (stS X it tb) ta tb i T := rfl
      rw [e0] at hF
      have s0 : SK T (whO X tb T) v g n := by
        unfold whO
        split
        · exact SK.rf h
        · exact h.fo (FO.wr (by omega)) (by rw [sI_ne (by omega)]; exact h.2.2.1)
      have f1 := (FS.wh1 (X := X) (ta := ta) (tb := tb) (T := T) (i := i) fB).trw hF
      have o1 := f1.ok hf0
      have c1 := f1.lt (FS.cd.tg s0.1.1.1) hcf
      have s1 := si_cd h2.1 (by omega) s0.1 c1
      have s2 := s1.1.fo (FO.kw (p := akY X ta (cdC X ta (whO X tb T)))) (by rw [kw_83]; exact s1.1.2.2.1)
      exact ⟨ge_of h2.1 (by omega) h2.2 s0.1.1 hf0 (FS.cd2.trw f1), ihB 2 _ _ _ _ _ _ N n 0 0 0 _ h3 (by omega) (by rw [if_pos rfl]; omega) hn s2.1 ((FS.wh2 o1).trw hF)⟩
    rw [if_neg k22] at hw ⊢
    by_cases k23 : k = 23
    · rw [if_pos k23] at hw ⊢
      subst k23
      obtain ⟨h1, rfl, rfl, h4⟩ := hw
      have e0 : stN X it (stS X it ta) (stS X it tb) ta tb 23 i e ys no j T = (rtC X ta i it T).2 := rfl
      rw [e0] at hF
      by_cases z : isZ ta = true
      · exact Or.inl z
      · right
        rw [if_neg z] at h4
        obtain ⟨c, h8, h9⟩ := h4
        have o := hF.ok hf0
        unfold rtC at hF o
        by_cases c0 : (rtO T (isZ ta) it (nI (xP X i))).1 7 0 = 0
        · rw [if_pos c0, if_neg z] at hF
          exact ge_of h8.1 (by omega) h8.2 h.1 hf0 ((FS.fe FE.ft).trw (FS.sp.trw hF))
        · rw [if_neg c0] at o
          exact absurd o c0
    rw [if_neg k23] at hw ⊢
    by_cases k24 : k = 24 ∨ k = 25
    · rw [if_pos k24] at hw
      rw [if_pos (by omega)]
      obtain ⟨h1, rfl, rfl, c, h4, h5⟩ := hw
      by_cases k4 : k = 24
      · subst k4
        have e0 : stN X it (stS X it ta) (stS X it tb) ta tb 24 i e ys no j T = niT (chk X ta 0 0 T).2.2.2 (chk X ta 0 0 T).1 (plT X ta) := rfl
        rw [e0] at hF
        exact ge_of h4.1 (by omega) h4.2 h.1 hf0 ((FS.fe FE.ni).trw hF)
      · obtain rfl : k = 25 := by omega
        have e0 : stN X it (stS X it ta) (stS X it tb) ta tb 25 i e ys no j T = spS (niT (chk X ta 0 0 T).2.2.2 (chk X ta 0 0 T).1 (plT X ta)) := rfl
        rw [e0] at hF
        exact ge_of h4.1 (by omega) h4.2 h.1 hf0 ((FS.fe FE.ni).trw (FS.sp.trw hF))
    rw [if_neg k24] at hw
    by_cases k30 : k = 30
    · rw [if_pos k30] at hw
      rw [if_pos (by omega)]
      subst k30
      obtain ⟨h1, rfl, rfl, c, h4, h5⟩ := hw
      have e0 : stN X it (stS X it ta) (stS X it tb) ta tb 30 i e ys no j T = (chk X ta 0 0 T).2.2.2 := rfl
      rw [e0] at hF
      exact ge_of h4.1 (by omega) h4.2 h.1 hf0 hF
    rw [if_neg k30] at hw
    rw [if_neg (by omega)]
    by_cases k29 : k = 29
    · rw [if_pos k29] at hw ⊢
      subst k29
      obtain ⟨h1, rfl, rfl, c, c2, h4, h5, h6⟩ := hw
      have e0 : stN X it (stS X it ta) (stS X it tb) ta tb 29 i e ys no j T = seC X ta tb T := rfl
      rw [e0] at hF
      have l5 := Wf_le2 h5.1
      have o := hF.ok hf0
      unfold seC at hF o
      by_cases o1 : (chk X tb 0 0 T).2.2.2.1 7 0 = 0
      · rw [if_pos o1] at hF o
        by_cases k4 : tkd X ta = 4
        · rw [if_pos k4] at hF o
          by_cases c2 : 0 ≤ fd (isVa (chk X tb 0 0 T).2.2.2 (xN X (lfI ta))) (vn (chk X tb 0 0 T).2.2.2)
          · rw [if_pos c2] at hF o
            unfold svS at hF
            refine ⟨ge_of h5.1 (by omega) h5.2 h.1 hf0 (FS.trw ?_ hF), Or.inl k4⟩
            exact FS.if2 ((FS.fe FE.ft).tr FS.gv) (FS.fe FE.ft)
          · rw [if_neg c2] at o
            exact absurd o (flT_bad (by decide))
        · rw [if_neg k4] at hF o
          by_cases c2 : tkd X ta = 14 ∨ tkd X ta = 15 ∨ tkd X ta = 16
          · rw [if_pos c2] at hF o
            have f2 := (FS.fe ((FE.td (T := (chk X ta 0 0 (chk X tb 0 0 T).2.2.2).2.2.2)).tr FE.ft)).trw hF
            have f1 := (FS.fe (chk_fe (X := X) ta 0 0 (chk X tb 0 0 T).2.2.2)).trw f2
            have hc1 := f1.lt ((chk_fe (X := X) tb 0 0 T).tg gT) hcf
            have h1 := (si_ch h5.1 (by omega) h hc1).1
            exact ⟨ge_of h5.1 (by omega) h5.2 h.1 hf0 f1, Or.inr ⟨c2, ge_of h4.1 (by omega) h4.2 h1.1.1 hf0 f2⟩⟩
          · rw [if_neg c2] at o
            exact absurd o (flT_bad (by decide))
      · rw [if_neg o1] at o
        exact absurd o o1
    rw [if_neg k29] at hw ⊢
    by_cases k26 : k = 26
    · rw [if_pos k26] at hw ⊢
      subst k26
      rw [if_neg (by omega), if_neg (by omega), if_neg (by omega), if_pos rfl] at hN
      obtain ⟨h1, h2, h3⟩ := hw
      have e0 : stN X it (stS X it ta) (stS X it tb) ta tb 26 i e ys no j T = rgC X (stS X it ta) i T := rfl
      rw [e0] at hF
      have mo := Ws_mo _ _ _ _ _ _ _ _ h3
      have o := hF.ok hf0
      unfold rgC at hF o
      by_cases c0 : 0 ≤ rgQ X T (i + 1)
      · rw [if_pos c0] at o
        exact absurd o (flT_bad (by decide))
      · rw [if_neg c0] at hF
        exact ihA 2 _ _ _ _ _ _ (N + 1) (n + 1) 0 0 0 _ h3 (by omega) (by rw [if_pos rfl]; omega) (by omega) (si_rgo h h2 (by omega)).1 (FS.rgl.trw hF)
    rw [if_neg k26] at hw ⊢
    by_cases k27 : k = 27
    · subst k27
      rw [if_neg (by omega), if_neg (by omega), if_neg (by omega)]
      trivial
    rw [if_neg k27] at hw
    by_cases k28 : k = 28
    · rw [if_pos k28] at hw ⊢
      subst k28
      rw [if_neg (by omega), if_pos (Or.inr (Or.inr rfl))] at hN
      obtain ⟨h1, c, v1, g1, h2, h3⟩ := hw
      have mo := Ws_mo _ _ _ _ _ _ _ _ h3
      have e0 : stN X it (stS X it ta) (stS X it tb) ta tb 28 i e ys no j T = trC X (stS X it ta) (stS X it tb) ta i T := rfl
      rw [e0] at hF
      have s0 := si_tro h (by omega)
      have f1 := (FS.ty1 (X := X) (A := stS X it ta) (ta := ta) (T := T) (i := i) fB).trw hF
      have o1 := f1.ok hf0
      have c1 := f1.lt ((fA _ _ _ _).tg s0.1.1.1) hcf
      have s1 := st_inv ta 2 _ _ _ _ _ _ (N + 1) h2 (by omega) (by unfold bL; rw [if_pos rfl]; omega) 0 0 0 (n + 1) _ (by omega) s0.1 c1 o1
      have s2 := si_out s1.1
      have s3 := s2.1.fo (T' := trM X (stS X it ta) ta T) (FO.rs.tr (FO.wr (by omega))) (by unfold trM; dsimp only; rw [sI_ne (by omega), rs_83]; exact h.2.2.1)
      exact ⟨ihA 2 _ _ _ _ _ _ (N + 1) (n + 1) 0 0 0 _ h2 (by omega) (by rw [if_pos rfl]; omega) (by omega) s0.1 f1, ihB 2 _ _ _ _ _ _ N n 0 0 0 _ h3 (by omega) (by rw [if_pos rfl]; omega) hn s3.1 ((FS.ty2 o1).trw hF)⟩
    · rw [if_neg k28] at hw
      exact hw.elim
end GSS
