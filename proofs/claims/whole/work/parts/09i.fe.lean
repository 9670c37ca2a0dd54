/-! what the check of an EXPR leaves as it was -/
abbrev fE (k : Nat) : Prop := k = 7 ∨ k = 8 ∨ (65 ≤ k ∧ k ≤ 70) ∨ (88 ≤ k ∧ k ≤ 92)
def Trw (T T' : gSt) : Prop := Tg T → Tg T' ∧ cn T ≤ cn T' ∧ (cn T' < 6000 → ∀ p, p < cn T → rwT T' p = rwT T p)
def FE (T T' : gSt) : Prop := (∀ k, ¬ fE k → T'.1 k = T.1 k) ∧ T'.2 = T.2 ∧ Trw T T' ∧ (¬ T.1 7 0 = 0 → ¬ T'.1 7 0 = 0)
section FEE
variable {T T' T'' T1 : gSt} {X : Lx} {n p u m q k i j e f : Nat} {r s x y v w a b : Int32} {z : T5}
theorem FE.rf : FE T T := ⟨fun _ _ => rfl, rfl, fun h => ⟨h, Nat.le_refl _, fun _ _ _ => rfl⟩, fun h => h⟩
theorem FE.tr (h : FE T T') (h2 : FE T' T'') : FE T T'' := ⟨fun k q => (h2.1 k q).trans (h.1 k q), h2.2.1.trans h.2.1, fun g => by
  have a := h.2.2.1 g
  have b := h2.2.2.1 a.1
  exact ⟨b.1, Nat.le_trans a.2.1 b.2.1, fun c p hp => (b.2.2 c p (Nat.lt_of_lt_of_le hp a.2.1)).trans (a.2.2 (Nat.lt_of_le_of_lt b.2.1 c) p hp)⟩, fun q => h2.2.2.2 (h.2.2.2 q)⟩
theorem FE.lt (h : FE T T') (g : Tg T) (c : cn T' < 6000) : cn T < 6000 := Nat.lt_of_le_of_lt (h.2.2.1 g).2.1 c
theorem FE.tg (h : FE T T') (g : Tg T) : Tg T' := (h.2.2.1 g).1
theorem rwT_w (h : k < 65 ∨ 70 < k) : rwT (sI T k i v) p = rwT T p := by
  unfold rwT
  rw [sI_ne (by omega), sI_ne (by omega), sI_ne (by omega), sI_ne (by omega), sI_ne (by omega)]
theorem cn_w (h : k ≠ 65) : cn (sI T k i v) = cn T := by
  unfold cn
  rw [sI_ne (fun e => h e.symm)]
theorem Trw.wr (h : k < 65 ∨ 70 < k) : Trw T (sI T k i v) := by
  intro g
  refine ⟨⟨?_, ?_, ?_⟩, ?_, ?_⟩
  · rw [cn_w (by omega), sI_ne (by omega)]; exact g.1
  · rw [cn_w (by omega)]; exact g.2.1
  · rw [cn_w (by omega)]; exact g.2.2
  · rw [cn_w (by omega)]; exact Nat.le_refl _
  · intro _ p _
    exact rwT_w h
theorem FE.wr (h : 88 ≤ k ∧ k ≤ 92) : FE T (sI T k i v) := ⟨fun g q => sI_ne (by omega), rfl, Trw.wr (by omega), fun q => by rw [sI_ne (by omega)]; exact q⟩
theorem Trw.rf : Trw T T := fun h => ⟨h, Nat.le_refl _, fun _ _ _ => rfl⟩
theorem Trw.tr (h : Trw T T') (h2 : Trw T' T'') : Trw T T'' := fun g => by
  have a := h g
  have b := h2 a.1
  exact ⟨b.1, Nat.le_trans a.2.1 b.2.1, fun c p hp => (b.2.2 c p (Nat.lt_of_lt_of_le hp a.2.1)).trans (a.2.2 (Nat.lt_of_le_of_lt b.2.1 c) p hp)⟩
theorem flT_bad (h : ¬ a = 0) : ¬ (flT T a b).1 7 0 = 0 := by
  unfold flT
  split
  · exact failS_bad h
  · assumption
theorem FE.fl (h : ¬ a = 0) : FE T (flT T a b) := by
  refine ⟨fun k q => flT_o (by omega) (by omega), flT_j, ?_, fun _ => flT_bad h⟩
  unfold flT
  split
  · unfold failS
    exact (Trw.wr (by omega)).tr (Trw.wr (by omega))
  · exact Trw.rf
theorem FE.kn : FE T (knS T z) := by
  refine ⟨fun k q => knS_o (by omega), knS_j, fun g => ?_, fun q => by rw [knS_o (by omega)]; exact q⟩
  refine ⟨(kn_tg g).1, (kn_tg g).2, fun c p hp => ?_⟩
  unfold knS at c ⊢
  by_cases h : knF T z = -1
  · rw [if_pos h] at c ⊢
    by_cases h2 : cn T < 6000
    · rw [if_pos h2, adT_row, if_neg (by omega)]
    · rw [if_neg h2] at c
      have e1 : cn (sI T 65 0 6001) = 6001 := by
        unfold cn
        rw [sI_v]
        exact nc (m := 6001) (by omega)
      omega
  · rw [if_neg h]
theorem FE.ch : ∀ (f : Nat) (T : gSt) (x : Int32), FE T (chT f T x w).2 := by
  intro f
  induction f with
  | zero => intro T x; exact FE.rf
  | succ f ih =>
    intro T x
    rw [chT]
    split
    · split
      · exact FE.kn
      · exact (ih T _).tr FE.kn
    · exact FE.rf
theorem FE.ft : FE T (ftS T x y v) := by
  unfold ftS
  by_cases h : T.1 7 0 = 0 ∧ ¬ mfI T x y ≤ 0
  · rw [if_pos h]
    have h0 : ¬ mfI T x y = 0 := fun e => h.2 (by rw [e]; decide)
    have := FE.fl (T := T) (b := v) h0
    unfold flT at this
    rw [if_pos h.1] at this
    exact this
  · rw [if_neg h]
    exact FE.rf
theorem FE.sr : FE T (srS X T q) := by
  unfold srS
  split
  · exact FE.rf
  · exact FE.fl (by decide)
theorem FE.sl : FE T (slS X T q) := by
  unfold slS
  split
  · exact FE.sr.tr (FE.fl (by decide))
  · exact FE.sr
theorem FE.wa : ∀ (m k : Nat) (T : gSt) (a : Int32), FE T (waX X m T q k a).2 := by
  intro m
  induction m with
  | zero => intro k T a; exact FE.rf
  | succ m ih =>
    intro k T a
    rw [waX]
    split
    · exact FE.sr.tr (ih _ _ _)
    · exact FE.rf
theorem FE.nu : FE T (nuS T x) := FE.wr (by omega)
theorem FE.tg2 : FE T (tgS T x) := FE.wr (by omega)
theorem FE.mk : FE T (mkS T) := FE.wr (by omega)
theorem FE.nm {nm : Int64} : FE T (nmC T nm x).2.2 := by
  unfold nmC
  repeat' split
  · exact FE.fl (by decide)
  · exact FE.kn
  · exact FE.rf
  · exact FE.fl (by decide)
theorem FE.th {nm : Int64} : FE T (thC T r s nm x y).2.2 := by
  unfold thC
  repeat' split
  · exact FE.fl (by decide)
  · exact FE.nu
  · exact FE.nu
  · exact (FE.nu.tr FE.tg2).tr (FE.ch _ _ _)
  · exact FE.nu.tr (FE.fl (by decide))
  · exact FE.fl (by decide)
theorem FE.ix : FE T (ixC T r s x y).2 := by
  unfold ixC
  repeat' split
  · exact FE.fl (by decide)
  · exact FE.fl (by decide)
  · exact FE.wr (by omega)
  · exact FE.fl (by decide)
theorem FE.op {sg : Int32} : FE T (opC T sg r s x y).2 := by
  unfold opC
  repeat' split
  all_goals first | exact FE.rf | exact FE.fl (by decide)
theorem FE.cd {fi all : Int32} : ∀ (m k : Nat) (T : gSt), FE T (cddS X fi all q m k T) := by
  intro m
  induction m with
  | zero => intro k T; exact FE.rf
  | succ m ih =>
    intro k T
    rw [cddS]
    split
    · refine FE.tr ?_ (ih _ _)
      split
      · exact FE.fl (by decide)
      · exact FE.rf
    · exact FE.rf
theorem FE.cw {fi all : Int32} : ∀ (m k : Nat) (T : gSt), FE T (cwhS X fi all q m k T) := by
  intro m
  induction m with
  | zero => intro k T; exact FE.rf
  | succ m ih =>
    intro k T
    rw [cwhS]
    split
    · refine FE.tr ?_ (ih _ _)
      split
      · exact FE.fl (by decide)
      · exact FE.rf
    · exact FE.rf
abbrev FEf (A : ChF) : Prop := ∀ f w T, FE T (A f w T).2.2.2
theorem FE.fi {c : Prop} [Decidable c] (h : ¬ a = 0) : FE T (if c then T else flT T a b) := by
  split
  · exact FE.rf
  · exact FE.fl h
theorem FE.if2 {c : Prop} [Decidable c] {T1 T2 : gSt} (h1 : FE T T1) (h2 : FE T T2) : FE T (if c then T1 else T2) := by
  split
  · exact h1
  · exact h2
theorem FE.ifr {c : Prop} [Decidable c] {R1 R2 : ChR} (h1 : FE T R1.2.2.2) (h2 : FE T R2.2.2.2) : FE T (if c then R1 else R2).2.2.2 := by
  split
  · exact h1
  · exact h2
theorem FE.ifrc {c : Prop} [Decidable c] {R1 R2 : ChR} (h1 : c → FE T R1.2.2.2) (h2 : ¬ c → FE T R2.2.2.2) : FE T (if c then R1 else R2).2.2.2 := by
  by_cases h : c
  · rw [if_pos h]; exact h1 h
  · rw [if_neg h]; exact h2 h
variable {A B : ChF} {ta tb : Tr}
theorem fe_ag (hA : FEf A) (hB : FEf B) : FE T (agC X A B ta f w T).2.2.2 := by
  unfold agC
  refine FE.ifr ?_ (hA _ _ _)
  exact (((hA 0 0 T).tr (FE.ch _ _ _)).tr FE.ft).tr (hB _ _ _)
theorem fe_clD (hA : FEf A) {fi all : Int32} : FE T (clD X A ta i e fi all T).1.2.2.2 ∧ FE T (clD X A ta i e fi all T).2 := by
  have h : FE T (clD X A ta i e fi all T).1.2.2.2 := by
    unfold clD
    refine FE.tr (FE.fi (c := nI (lenT ta) = T.1 19 fi.toNatClampNeg) (a := 7) (b := nI (xP X i)) (by decide)) ?_
    exact FE.ifr (hA _ _ _) FE.rf
  refine ⟨h, ?_⟩
  exact h.tr ((FE.cd _ _ _).tr (FE.cw _ _ _))
theorem fe_cl (hA : FEf A) : FE T (clC X A ta i e T).2.2.2 := by
  unfold clC
  dsimp only
  have h1 : ∀ fi : Int32, FE T (if 0 ≤ fi then (if T.1 15 fi.toNatClampNeg = nI e then T else flT T 7 (nI (xP X i))) else flT T 3 (nI (xP X i))) := fun fi => FE.if2 (FE.fi (by decide)) (FE.fl (by decide))
  generalize ff (isFu T (xN X i)) 0 (inn T) = fi
  have h1' := h1 fi
  generalize (if 0 ≤ fi then (if T.1 15 fi.toNatClampNeg = nI e then T else flT T 7 (nI (xP X i))) else flT T 3 (nI (xP X i))) = T1 at *
  have h2 := h1'.tr (FE.wa (X := X) (q := i + 1) (if T1.1 7 0 = 0 then e else 0) 0 T1 0)
  generalize waX X (if T1.1 7 0 = 0 then e else 0) T1 (i + 1) 0 0 = W at *
  have h3 := h2.tr (fe_clD (X := X) (ta := ta) (i := i) (e := e) (fi := fi) (all := W.1) hA).2
  refine FE.ifr ?_ h2
  refine FE.ifr ?_ h3
  exact FE.ifr (h3.tr (FE.ch _ _ _)) h3
theorem fe_nwD (hA : FEf A) {ti all : Int32} : FE T (nwD X A ta i e r ti all T).2.2.2 := by
  unfold nwD
  dsimp only
  generalize (if xK X (i + 3 + e) = 49 then (1 : Int32) else 0) = un
  have h1 : FE T (if T.1 12 ti.toNatClampNeg = un then (if un = 0 then (if nI (lenT ta) = T.1 19 ti.toNatClampNeg then T else flT T 7 (nI (xP X (i + 2)))) else T) else flT T 7 (nI (xP X (i + 3 + e)))) := FE.if2 (FE.if2 (FE.fi (by decide)) FE.rf) (FE.fl (by decide))
  generalize (if T.1 12 ti.toNatClampNeg = un then (if un = 0 then (if nI (lenT ta) = T.1 19 ti.toNatClampNeg then T else flT T 7 (nI (xP X (i + 2)))) else T) else flT T 7 (nI (xP X (i + 3 + e)))) = T1 at *
  refine FE.ifr ?_ h1
  refine FE.ifr ?_ ?_
  · have h2 := h1.tr (hA (T1.1 18 ti.toNatClampNeg).toNatClampNeg all T1)
    exact FE.ifr (h2.tr (FE.mk.tr FE.kn)) h2
  · refine FE.ifr ?_ (h1.tr (FE.fl (by decide)))
    have h2 := (h1.tr (hA 0 0 T1)).tr ((FE.ch (w := all) 7 _ (fty (A 0 0 T1).2.2.2 ti (fnF T1 ti (xN X (i + 3 + e + 1))))).tr (FE.ft (x := (A 0 0 T1).1) (y := (chT 7 (A 0 0 T1).2.2.2 (fty (A 0 0 T1).2.2.2 ti (fnF T1 ti (xN X (i + 3 + e + 1)))) all).1) (v := plT X ta)))
    exact FE.ifr (h2.tr (FE.mk.tr FE.kn)) h2
theorem fe_nw (hA : FEf A) : FE T (nwC X A ta i e T).2.2.2 := by
  unfold nwC
  dsimp only
  have h0 : FE T (slS X T (i + 1)) := FE.sl
  generalize slS X T (i + 1) = T0 at *
  refine FE.ifr ?_ h0
  generalize ff (isTi T0 (xN X (i + 2))) 0 (inn T0) = ti
  have h1 : FE T0 (if 0 ≤ ti then (if T0.1 15 ti.toNatClampNeg = nI e then T0 else flT T0 7 (nI (xP X (i + 2)))) else flT T0 3 (nI (xP X (i + 2)))) := FE.if2 (FE.fi (by decide)) (FE.fl (by decide))
  generalize (if 0 ≤ ti then (if T0.1 15 ti.toNatClampNeg = nI e then T0 else flT T0 7 (nI (xP X (i + 2)))) else flT T0 3 (nI (xP X (i + 2)))) = T1 at *
  have h2 := (h0.tr h1).tr (FE.wa (X := X) (q := i + 3) e 0 T1 0)
  exact FE.ifr (h2.tr (fe_nwD hA)) h2
theorem fe_md (hA : FEf A) {js : List T5} : FE T (mdC X A ta s r js T).2.2.2 := by
  unfold mdC
  dsimp only
  have h1 : FE T (if (A 0 0 T).2.2.2.1 7 0 = 0 ∧ ¬ 0 ≤ (A 0 0 T).1 then flT (A 0 0 T).2.2.2 4 (plT X ta) else (A 0 0 T).2.2.2) := FE.if2 ((hA 0 0 T).tr (FE.fl (by decide))) (hA 0 0 T)
  exact FE.ifr (h1.tr (FE.mk.tr FE.kn)) h1
theorem fe_rw (hA : FEf A) (hB : FEf B) : FE T (rwC X A B ta tb i T).2.2.2 := by
  unfold rwC
  dsimp only
  refine FE.ifr ?_ FE.sl
  have h0 : FE T (slS X T (i + 1)) := FE.sl
  generalize slS X T (i + 1) = T0 at *
  have h1 : FE T0 (if (A 0 0 T0).2.2.2.1 7 0 = 0 ∧ ¬ (A 0 0 T0).1 = 0 then flT (A 0 0 T0).2.2.2 4 (plT X ta) else (A 0 0 T0).2.2.2) := FE.if2 ((hA 0 0 _).tr (FE.fl (by decide))) (hA 0 0 _)
  exact (h0.tr h1).tr (fe_md hB)
theorem fe_an (hA : FEf A) : FE T (anC X A ta T).2.2.2 := by
  unfold anC
  dsimp only
  refine FE.ifr (FE.ifr (FE.ifr ?_ ?_) ?_) (FE.fl (by decide))
  · exact (hA 0 0 T).tr (FE.fl (by decide))
  · exact (hA 0 0 T).tr FE.kn
  · exact hA 0 0 T
theorem fe_nn (hA : FEf A) : FE T (nnC X A ta T).2.2.2 := by
  unfold nnC
  dsimp only
  refine FE.ifr (FE.ifr ?_ ?_) ?_
  · exact (hA 0 0 T).tr (FE.fl (by decide))
  · exact (hA 0 0 T).tr (FE.nu.tr FE.kn)
  · exact hA 0 0 T
theorem fe_sz (hA : FEf A) : FE T (szC X A ta T).2.2.2 := by
  unfold szC
  dsimp only
  refine FE.ifr (FE.ifr ?_ ?_) ?_
  · exact (hA 0 0 T).tr (FE.fl (by decide))
  · exact hA 0 0 T
  · exact hA 0 0 T
theorem fe_lf : FE T (lfC X i T).2.2.2 := by
  unfold lfC
  refine FE.ifr FE.rf (FE.ifr FE.rf (FE.ifr FE.rf (FE.ifr (FE.ifr (FE.fl (by decide)) FE.rf) FE.nm)))
theorem fe_tl (hA : FEf A) : FE T (tlC X A ta i T).2.2.2 := by
  unfold tlC
  dsimp only
  exact FE.ifr ((hA 0 0 T).tr FE.th) (hA 0 0 T)
theorem fe_ex (hA : FEf A) (hB : FEf B) : FE T (exC X A B ta tb T).2.2.2 := by
  unfold exC
  dsimp only
  exact FE.ifr (FE.ifr (((hA 0 0 T).tr (hB 0 0 _)).tr FE.ix) ((hA 0 0 T).tr (hB 0 0 _))) (hA 0 0 T)
theorem fe_bn (hA : FEf A) (hB : FEf B) {sg : Int32} : FE T (bnC X A B ta tb sg T).2.2.2 := by
  unfold bnC
  dsimp only
  exact FE.ifr (FE.ifr (((hA 0 0 T).tr (hB 0 0 _)).tr FE.op) ((hA 0 0 T).tr (hB 0 0 _))) (hA 0 0 T)
theorem fe_n (hA : FEf A) (hB : FEf B) : FE T (chN X A B ta tb k i e f w T).2.2.2 := by
  unfold chN
  refine FE.ifr fe_lf (FE.ifr (hA 0 0 T) (FE.ifr (fe_tl hA) (FE.ifr (fe_ex hA hB) (FE.ifr (fe_bn hA hB) (FE.ifr (fe_cl hA) (FE.ifr (fe_nw hA) (FE.ifr (FE.ifr ?_ (FE.ifr (fe_rw hA hB) (FE.ifr (fe_nn hA) (fe_sz hA)))) (FE.ifr (fe_an hA) (fe_ag hA hB)))))))))
  unfold clLv
  exact FE.sl.tr (fe_md hA)
theorem Tr_ind {P : Tr → Prop} (h : ∀ k i e a b, P a → P b → P (tD k i e a b)) (hz : ∀ t : Tr, (∀ k i e a b, t ≠ tD k i e a b) → P t) (t : Tr) : P t := by
  have key : ∀ (n : Nat) (t : Tr), tsz t ≤ n → P t := by
    intro n
    induction n with
    | zero =>
      intro t ht
      cases t <;> simp [tsz] at ht
    | succ n ih =>
      intro t ht
      by_cases c : ∃ k i e a b, t = tD k i e a b
      · obtain ⟨k, i, e, a, b, rfl⟩ := c
        have hs : tsz a ≤ n ∧ tsz b ≤ n := by
          unfold tD at ht
          simp only [tsz] at ht
          omega
        exact h k i e a b (ih a hs.1) (ih b hs.2)
      · exact hz t (fun k i e a b q => c ⟨k, i, e, a, b, q⟩)
  exact key (tsz t) t (Nat.le_refl _)
theorem chk_nz {t : Tr} (h : ∀ k i e a b, t ≠ tD k i e a b) : chk X t f w T = erR T := by
  unfold chk
  split
  · rename_i k i e a b
    exact absurd rfl (h k i e a b)
  · rfl
theorem chk_fe (t : Tr) : FEf (chk X t) := by
  induction t using Tr_ind with
  | h k i e a b ihA ihB =>
    intro f w T
    rw [chk_n]
    exact FE.ifr (fe_n ihA ihB) FE.rf
  | hz t h =>
    intro f w T
    rw [chk_nz h]
    exact FE.rf
end FEE
