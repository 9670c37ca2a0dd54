/-! the code: its rows, and what each tells -/
def ly (T : gSt) (n : Nat) (a b c e : Int32) : gSt := sI (sI (sI (sI (sI T 96 n a) 97 n b) 98 n c) 99 n e) 95 0 (nI (n + 1))
/-- what laying rows n to n' leaves as it was -/
def LF (T T' : gSt) (n n' : Nat) : Prop := n ≤ n' ∧ T'.1 95 0 = nI n' ∧ (∀ k, k ≠ 93 → ¬ (95 ≤ k ∧ k ≤ 99) → T'.1 k = T.1 k) ∧ T'.2 = T.2 ∧ (∀ k q, 96 ≤ k → k ≤ 99 → q < n → T'.1 k q = T.1 k q) ∧ ∀ j, j < (T.1 94 0).toNatClampNeg → T'.1 93 j = T.1 93 j
/-- & takes the place of the instruction that would have fetched -/
def ajj (l j : T5) : T5 := if l.1 = 8 then (9, 0, j.2.1, j.2.2.1, j.2.2.2.1) else (7, l.2.1, j.2.1, j.2.2.1, j.2.2.2.1)
def kst (acc : List T5) (j : T5) : List T5 := if j.1 = 7 then acc.dropLast ++ [ajj (acc.getLastD j) j] else acc ++ [j]
/-- the instructions of an EXPR -/
def ksE (js : List T5) : List T5 := js.foldl kst []
def wdO (T : gSt) (x : Int32) : Int32 := if isRo T x = 0 then 1 else 3
/-- the row of an instruction, but a call's -/
def rB (T : gSt) (j : T5) : Int32 × Int32 × Int32 × Int32 :=
  if j.1 = 6 then (6, j.2.1, T.1 12 (tf T 69 j.2.2.1).toNatClampNeg, 0)
  else if j.1 = 8 ∨ j.1 = 12 ∨ j.1 = 13 then (j.1, 0, 0, 0)
  else if j.1 = 14 ∨ j.1 = 15 then (j.1, j.2.1, wdO T j.2.2.1, 0)
  else if j.1 = 16 then (16, j.2.1, tf T 69 j.2.2.1, 0)
  else if j.1 = 17 then (17, j.2.1, tf T 69 j.2.2.1, j.2.2.2.1)
  else if j.1 = 19 then (if isRo T j.2.2.2.2 = 0 then (if j.2.1 = 256 ∧ ¬ j.2.2.1 = 0 then (21, 0, 0, 0) else (19, j.2.1, 0, 0)) else (20, 0, 0, 0))
  else (j.1, j.2.1, 0, 0)
def rwC4 (T : gSt) (n : Nat) : Int32 × Int32 × Int32 × Int32 := (T.1 96 n, T.1 97 n, T.1 98 n, T.1 99 n)
/-- row n of the code tells instruction j; a call's regions lie where they are used -/
def rOk (T : gSt) (j : T5) (n : Nat) : Prop := if j.1 = 18 then ∃ u e, j.2.2.2.2 = nI e ∧ e ≤ 3 ∧ u + e ≤ nU T ∧ rwC4 T n = (18, j.2.1, nI u, 0) ∧ ∀ k, k < e → T.1 48 (u + k) = ptOf j.2.2.1 (nI k) else rwC4 T n = rB T j
def LyL (T : gSt) : List T5 → Nat → Prop
  | [], _ => True
  | j :: ks, n => rOk T j n ∧ LyL T ks (n + 1)
section LYY
variable {nf d : Nat} {T T' T1 S : gSt} {X : Lx} {n n' m k p u lo hi a b c : Nat} {x y z : Int32} {j l : T5} {js ks l0 l2 : List T5} {t : Tr}
theorem x_lay (h95 : T.1 95 0 = nI n) (hn : n < 12000) {p q r s : Int32} : RR nf (d + 1) 97 T [p, q, r, s] [] = some (nI n, 0, ly T n p q r s) := by
  have zn : inb (nI n) 12000 := nin hn (by omega)
  have cn : (nI n).toNatClampNeg = n := nc (by omega)
  rw [e_Model_lay]
  unfold rb_Model_lay ly
  simp only [gd, stK]
  have o : ∀ (S : gSt) (k q : Nat) (v : Int32), k ≠ 95 → (sI S k q v).1 95 = S.1 95 := fun S k q v h => sI_ne (fun e => h e.symm)
  rw [h95, if_pos zn, cn]
  simp only [o _ _ _ _ (show 96 ≠ 95 by omega), o _ _ _ _ (show 97 ≠ 95 by omega), o _ _ _ _ (show 98 ≠ 95 by omega), o _ _ _ _ (show 99 ≠ 95 by omega), h95, if_pos zn, cn, nI_1]
  rw [sI_v]
  have e : nI (n + 1) - 1 = nI n := nI_sub
  rw [e]
theorem ly_o (h : ¬ (95 ≤ k ∧ k ≤ 99)) {p q r s : Int32} : (ly T n p q r s).1 k = T.1 k := by
  unfold ly
  rw [sI_ne (by omega), sI_ne (by omega), sI_ne (by omega), sI_ne (by omega), sI_ne (by omega)]
theorem ly_row {p q r s : Int32} : rwC4 (ly T n p q r s) n = (p, q, r, s) := by
  unfold rwC4 ly
  rw [sI_ne (g' := 96) (by omega), sI_ne (g' := 96) (by omega), sI_ne (g' := 96) (by omega), sI_ne (g' := 96) (by omega), rdI, if_pos ⟨rfl, rfl⟩, sI_ne (g' := 97) (by omega), sI_ne (g' := 97) (by omega), sI_ne (g' := 97) (by omega), rdI, if_pos ⟨rfl, rfl⟩, sI_ne (g' := 98) (by omega), sI_ne (g' := 98) (by omega), rdI, if_pos ⟨rfl, rfl⟩, sI_ne (g' := 99) (by omega), rdI, if_pos ⟨rfl, rfl⟩]
theorem LF.rf (h : T.1 95 0 = nI n) : LF T T n n := ⟨Nat.le_refl _, h, fun _ _ _ => rfl, rfl, fun _ _ _ _ _ => rfl, fun _ _ => rfl⟩
theorem LF.tr (h : LF T T1 n m) (h2 : LF T1 T' m n') : LF T T' n n' := ⟨Nat.le_trans h.1 h2.1, h2.2.1, fun k a b => (h2.2.2.1 k a b).trans (h.2.2.1 k a b), h2.2.2.2.1.trans h.2.2.2.1, fun k q a b c => (h2.2.2.2.2.1 k q a b (Nat.lt_of_lt_of_le c h.1)).trans (h.2.2.2.2.1 k q a b c), fun j hj => (h2.2.2.2.2.2 j (by rw [h.2.2.1 94 (by omega) (by omega)]; exact hj)).trans (h.2.2.2.2.2 j hj)⟩
theorem LF.l1 {p q r s : Int32} : LF T (ly T n p q r s) n (n + 1) := by
  refine ⟨by omega, ?_, fun k _ b => ly_o b, rfl, fun k i a b c => ?_, fun j _ => by rw [ly_o (by omega)]⟩
  · unfold ly
    exact sI_v
  · unfold ly
    rw [sI_ne (by omega), rdI, if_neg (by omega), rdI, if_neg (by omega), rdI, if_neg (by omega), rdI, if_neg (by omega)]
theorem LF.o (h : LF T T' n n') (hk : k ≤ 92) : T'.1 k = T.1 k := h.2.2.1 k (by omega) (by omega)
theorem rOk.lf (h : rOk T j p) (hF : LF T T' n n') (hp : p < n) : rOk T' j p := by
  have er : rwC4 T' p = rwC4 T p := by
    unfold rwC4
    rw [hF.2.2.2.2.1 96 p (by omega) (by omega) hp, hF.2.2.2.2.1 97 p (by omega) (by omega) hp, hF.2.2.2.2.1 98 p (by omega) (by omega) hp, hF.2.2.2.2.1 99 p (by omega) (by omega) hp]
  have eb : rB T' j = rB T j := by
    unfold rB wdO isRo tf
    rw [hF.o (k := 12) (by omega), hF.o (k := 69) (by omega), hF.o (k := 66) (by omega)]
  unfold rOk nU at h ⊢
  rw [er, eb, hF.o (k := 48) (by omega), hF.o (k := 45) (by omega)]
  exact h
theorem LyL.lf (hF : LF T T' n n') : ∀ (ks : List T5) (p : Nat), p + ks.length ≤ n → LyL T ks p → LyL T' ks p := by
  intro ks
  induction ks with
  | nil => intro p _ _; trivial
  | cons j ks ih =>
    intro p hp h
    rw [List.length_cons] at hp
    exact ⟨h.1.lf hF (by omega), ih (p + 1) (by omega) h.2⟩
theorem LyL.ap : ∀ (ks l2 : List T5) (p : Nat), LyL T ks p → LyL T l2 (p + ks.length) → LyL T (ks ++ l2) p := by
  intro ks
  induction ks with
  | nil => intro l2 p _ h; exact h
  | cons j ks ih =>
    intro l2 p h h2
    refine ⟨h.1, ih l2 (p + 1) h.2 ?_⟩
    rw [List.length_cons] at h2
    rw [show p + 1 + ks.length = p + (ks.length + 1) by omega]
    exact h2
theorem LyL.fst : ∀ (ks l2 : List T5) (p : Nat), LyL T (ks ++ l2) p → LyL T ks p := by
  intro ks
  induction ks with
  | nil => intro l2 p _; trivial
  | cons j ks ih => intro l2 p h; exact ⟨h.1, ih l2 (p + 1) h.2⟩
/-- instructions behind others -/
def kGo (js : List T5) : Prop := ∀ acc, js.foldl kst acc = acc ++ ksE js
theorem kGo.nl : kGo [] := fun acc => (List.append_nil acc).symm
theorem ksE_n (h : ¬ j.1 = 7) : ksE (js ++ [j]) = ksE js ++ [j] := by
  unfold ksE
  rw [List.foldl_append]
  show kst (js.foldl kst []) j = _
  unfold kst
  rw [if_neg h]
theorem kGo.nx (hg : kGo js) (h : ¬ j.1 = 7) : kGo (js ++ [j]) := by
  intro acc
  rw [ksE_n h, List.foldl_append, hg acc]
  show kst (acc ++ ksE js) j = _
  unfold kst
  rw [if_neg h, List.append_assoc]
theorem ksE_ap (h2 : kGo ks) : ksE (js ++ ks) = ksE js ++ ksE ks := by
  unfold ksE
  rw [List.foldl_append]
  exact h2 _
theorem kGo.ap (h : kGo js) (h2 : kGo ks) : kGo (js ++ ks) := by
  intro acc
  rw [List.foldl_append, h acc, h2, ksE_ap h2, List.append_assoc]
theorem ksE_7 (h : j.1 = 7) (hl : ¬ l.1 = 7) : ksE (js ++ [l] ++ [j]) = ksE js ++ [ajj l j] := by
  unfold ksE
  rw [List.foldl_append, List.foldl_append]
  show kst (kst (js.foldl kst []) l) j = _
  unfold kst
  rw [if_neg hl, if_pos h, List.dropLast_concat, List.getLastD_concat]
theorem kGo.s (hg : kGo js) (h : j.1 = 7) (hl : ¬ l.1 = 7) : kGo (js ++ [l] ++ [j]) := by
  intro acc
  rw [ksE_7 h hl, List.foldl_append, List.foldl_append, hg acc]
  show kst (kst (acc ++ ksE js) l) j = _
  unfold kst
  rw [if_neg hl, if_pos h, List.dropLast_concat, List.getLastD_concat, List.append_assoc]
end LYY
