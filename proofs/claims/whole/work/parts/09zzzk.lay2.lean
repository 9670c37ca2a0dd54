/-! the code of EXPRS: down the left parts and back -/
def LyP (T : gSt) (s n : Nat) : Prop := T.1 94 0 = nI s ∧ T.1 95 0 = nI n ∧ nU T ≤ 4000 ∧ inn T ≤ 24 ∧ cn T ≤ 6000
def LyR (T T' : gSt) (n : Nat) (ks : List T5) : Prop := LF T T' n (n + ks.length) ∧ LyL T' ks n
def LyQ (nf : Nat) (T : gSt) (d lo hi fr fl : Nat) (x : Int32) (n : Nat) (ks : List T5) (T' : gSt) (g : Nat) : Prop := nf ≤ g + (hi - lo) ∧ g ≤ nf ∧ rl_Model_layExpression_7 (RR nf d) nf fl T (nI fr) x = rl_Model_layExpression_54 (RR nf d) nf g T' (nI fr) ∧ LyR T T' n ks
def LyD (nf : Nat) (X : Lx) (t : Tr) : Prop := ∀ (T : gSt) (d lo hi a b s fr fl n : Nat) (x ty tl : Int32) (js : List T5), AnE X T t lo hi x ty tl js → hi ≤ 8200 → Wf X t false a b → b ≤ xn X → amT X t → jGs T js → LyP T s n → fr ≤ s → s + (hi - lo) ≤ 8200 → 6 * dpT t + 19 ≤ d → hi - lo < fl → n + (ksE js).length ≤ 12000 → kGo js ∧ ∃ (T' : gSt) (g : Nat), LyQ nf T d lo hi fr fl x n (ksE js) T' g
def LyX (nf : Nat) (X : Lx) (t : Tr) : Prop := ∀ (T : gSt) (d lo hi a b s n : Nat) (x ty tl : Int32) (js : List T5), AnE X T t lo hi x ty tl js → hi ≤ 8200 → Wf X t false a b → b ≤ xn X → amT X t → jGs T js → LyP T s n → s + (hi - lo) ≤ 8200 → 6 * dpT t + 20 ≤ d → n + (ksE js).length ≤ 12000 → kGo js ∧ wp (RR nf d 103 T [x] []) (fun _ _ T' => LyR T T' n (ksE js))
section LYE
variable {nf d : Nat} {T T' T1 T2 S : gSt} {X : Lx} {n n' m k p u lo hi a b c s fr fl i e g : Nat} {x y z ty tl t0 : Int32} {j l : T5} {js ks l0 l2 : List T5} {t ta tb : Tr}
theorem LyP.lf (h : LyP T s n) (hF : LF T T' n n') : LyP T' s n' := ⟨by rw [hF.2.2.1 94 (by omega) (by omega)]; exact h.1, hF.2.1, by unfold nU; rw [hF.o (k := 45) (by omega)]; exact h.2.2.1, by unfold inn; rw [hF.o (k := 11) (by omega)]; exact h.2.2.2.1, by unfold cn; rw [hF.o (k := 65) (by omega)]; exact h.2.2.2.2⟩
theorem LyR.tr (h : LyR T T1 n ks) (h2 : LyR T1 T' (n + ks.length) l2) : LyR T T' n (ks ++ l2) := by
  refine ⟨?_, LyL.ap ks l2 n (LyL.lf h2.1 ks n (Nat.le_refl _) h.2) h2.2⟩
  have := h.1.tr h2.1
  rw [List.length_append, show n + (ks.length + l2.length) = n + ks.length + l2.length by omega]
  exact this
theorem rOk_ly (h : ¬ j.1 = 18) {p q r v : Int32} (e : (p, q, r, v) = rB T j) : rOk (ly T n p q r v) j n := by
  unfold rOk
  rw [if_neg h, ly_row, e]
  unfold rB wdO isRo tf
  rw [ly_o (by omega), ly_o (by omega), ly_o (by omega)]
theorem LyR.one (h : ¬ j.1 = 18) {p q r v : Int32} (e : (p, q, r, v) = rB T j) : LyR T (ly T n p q r v) n [j] := ⟨LF.l1, rOk_ly h e, trivial⟩
theorem Kp.lf (hF : LF T T' n n') : Kp X T T' lo hi a b := ⟨⟨fun k a _ _ => hF.o (by omega), fun k _ => by rw [hF.2.2.2.1]⟩, fun j _ _ => ⟨by rw [hF.o (k := 60) (by omega)], by rw [hF.o (k := 61) (by omega)]⟩, fun u _ _ _ _ => by rw [hF.o (k := 48) (by omega)]⟩
theorem AnE.lf (h : AnE X T t lo hi x ty tl js) (hF : LF T T' n n') {mo : Bool} (hw : Wf X t mo a b) (hb : b ≤ xn X) : AnE X T' t lo hi x ty tl js := AnE.kp (b := b) hb t mo a b lo hi x ty tl js (Nat.le_refl _) hw (Kp.lf hF) h
theorem jG.eq (h : jG T j) (e65 : T'.1 65 = T.1 65) (e69 : T'.1 69 = T.1 69) (e11 : T'.1 11 = T.1 11) : jG T' j := by
  have ec : cn T' = cn T := by unfold cn; rw [e65]
  have ei : inn T' = inn T := by unfold inn; rw [e11]
  unfold jG tR tV at h ⊢
  rw [ec, ei, e69]
  exact h
theorem jGs.lf (h : jGs T js) (hF : LF T T' n n') : jGs T' js := fun j hj => (h j hj).eq (hF.o (by omega)) (hF.o (by omega)) (hF.o (by omega))
theorem lyX_of (hnf : 8300 ≤ nf) (h : LyD nf X t) : LyX nf X t := by
  intro T d lo hi a b s n x ty tl js h1 h2 h3 h4 h5 h6 h7 h8 h9 h10
  obtain ⟨d', rfl⟩ : ∃ q, d = q + 1 := ⟨d - 1, by omega⟩
  obtain ⟨kg, T', g, q1, q2, q3, q4⟩ := h T d' lo hi a b s s nf n x ty tl js h1 h2 h3 h4 h5 h6 h7 (Nat.le_refl _) h8 (by omega) (by omega) h10
  refine ⟨kg, ?_⟩
  rw [e_Model_layExpression]
  unfold rb_Model_layExpression
  rw [vK, h7.1, q3]
  obtain ⟨g', rfl⟩ : ∃ q, g = q + 1 := ⟨g - 1, by omega⟩
  rw [rl_Model_layExpression_54, (h7.lf q4.1).1, if_pos (Int32.le_refl _)]
  exact wp_some q4
/-- a node without a left part -/
theorem ly_first (hd : 1 ≤ d) (hm : m < 8200) (hlt : lo < hi) (hk : ¬ T.1 50 m = 13 ∧ ¬ T.1 50 m = 14 ∧ ¬ T.1 50 m = 15 ∧ ¬ T.1 50 m = 16 ∧ ¬ T.1 50 m = 17) (h : wp (RR nf d 105 T [nI m] []) (fun _ _ T' => LyR T T' n ks)) (hf : 0 < fl) : ∃ (T' : gSt) (g : Nat), LyQ nf T d lo hi fr fl (nI m) n ks T' g := by
  have zm : inb (nI m) 8200 := nin (by omega) (by omega)
  have cm : (nI m).toNatClampNeg = m := nc (by omega)
  obtain ⟨fl', rfl⟩ : ∃ g, fl = g + 1 := ⟨fl - 1, by omega⟩
  obtain ⟨d', rfl⟩ : ∃ g, d = g + 1 := ⟨d - 1, by omega⟩
  obtain ⟨r, v, T', e, q⟩ := h
  refine ⟨T', nf, by omega, Nat.le_refl _, ?_, q⟩
  rw [rl_Model_layExpression_7, gd, if_pos zm, cm, x_left0 hk, bis, if_pos rfl, e, bis]
theorem LyL.eq (h : ∀ k, k ≠ 93 → k ≠ 94 → T'.1 k = T.1 k) : ∀ (ks : List T5) (p : Nat), LyL T ks p → LyL T' ks p := by
  intro ks
  induction ks with
  | nil => intro p _; trivial
  | cons j ks ih =>
    intro p hl
    refine ⟨?_, ih (p + 1) hl.2⟩
    have h1 := hl.1
    unfold rOk rwC4 rB wdO isRo tf nU at h1 ⊢
    rw [h 96 (by omega) (by omega), h 97 (by omega) (by omega), h 98 (by omega) (by omega), h 99 (by omega) (by omega), h 12 (by omega) (by omega), h 69 (by omega) (by omega), h 66 (by omega) (by omega), h 48 (by omega) (by omega), h 45 (by omega) (by omega)]
    exact h1
/-- one node further up -/
theorem ly_left (hA : LyD nf X ta) (hra : AnE X T ta lo m y tl t0 l0) (hwa : Wf X ta false a i) (hib : i ≤ xn X) (ham : amT X ta) (hj : jGs T l0) (hlm : lo ≤ m) (hm : m < hi) (hhi : hi ≤ 8200) (h50 : T.1 50 m = 13 ∨ T.1 50 m = 14 ∨ T.1 50 m = 15 ∨ T.1 50 m = 16 ∨ T.1 50 m = 17) (h52 : T.1 52 m = y) (hP : LyP T s n) (hfr : fr ≤ s) (hss : s + (hi - lo) ≤ 8200) (hd : 6 * dpT ta + 19 ≤ d) (hfl : hi - lo < fl) (hnf : 8300 ≤ nf) (hlen : n + (ksE l0).length ≤ 12000) (hK : ∀ T1, LF T T1 n (n + (ksE l0).length) → wp (RR nf d 104 T1 [nI m] []) (fun _ _ T' => LyR T1 T' (n + (ksE l0).length) l2)) : kGo l0 ∧ ∃ (T' : gSt) (g : Nat), LyQ nf T d lo hi fr fl (nI m) n (ksE l0 ++ l2) T' g := by
  have zm : inb (nI m) 8200 := nin (by omega) (by omega)
  have cm : (nI m).toNatClampNeg = m := nc (by omega)
  have zs : inb (nI s) 8200 := nin (by omega) (by omega)
  have cs : (nI s).toNatClampNeg = s := nc (by omega)
  obtain ⟨hs, h95, hU, hin, hcn⟩ := hP
  obtain ⟨fl', rfl⟩ : ∃ g, fl = g + 1 := ⟨fl - 1, by omega⟩
  have n11 : ∀ g, g ≠ 93 → g ≠ 94 → (sI (sI T 93 s (nI m)) 94 0 (nI (s + 1))).1 g = T.1 g := fun g h1 h2 => by rw [sI_ne h2, sI_ne h1]
  have v94 : ∀ q, (sI (sI T 93 s (nI m)) 94 0 (nI (s + 1))).1 94 q = if q = 0 then nI (s + 1) else T.1 94 q := fun q => by
    rw [rdI]
    by_cases c : q = 0
    · rw [if_pos ⟨rfl, c⟩, if_pos c]
    · rw [if_neg (fun h => c h.2), if_neg c, sI_ne (by omega)]
  have v93 : ∀ j, (sI (sI T 93 s (nI m)) 94 0 (nI (s + 1))).1 93 j = if j = s then nI m else T.1 93 j := fun j => by
    rw [sI_ne (by omega), rdI]
    by_cases c : j = s
    · rw [if_pos ⟨rfl, c⟩, if_pos c]
    · rw [if_neg (fun h => c h.2), if_neg c]
  have v2 : (sI (sI T 93 s (nI m)) 94 0 (nI (s + 1))).2 = T.2 := rfl
  have step : rl_Model_layExpression_7 (RR nf d) nf (fl' + 1) T (nI fr) (nI m) = rl_Model_layExpression_7 (RR nf d) nf fl' (sI (sI T 93 s (nI m)) 94 0 (nI (s + 1))) (nI fr) y := by
    obtain ⟨d', rfl⟩ : ∃ g, d = g + 1 := ⟨d - 1, by omega⟩
    rw [rl_Model_layExpression_7]
    simp only [gd, if_pos zm, cm]
    rw [x_left1 h50, bis, if_neg (by decide)]
    simp only [hs, if_pos zs, cs, stK, vK, nI_1]
    rw [sI_ne (g' := 94) (by omega), hs, nI_1, sI_ne (g' := 52) (by omega), sI_ne (g' := 52) (by omega), h52]
  generalize sI (sI T 93 s (nI m)) 94 0 (nI (s + 1)) = T11 at *
  have kp : Kp X T T11 lo m a i := ⟨⟨fun k h1 _ _ => n11 k (by omega) (by omega), fun k _ => by rw [v2]⟩, fun j _ _ => ⟨by rw [n11 60 (by omega) (by omega)], by rw [n11 61 (by omega) (by omega)]⟩, fun u _ _ _ _ => by rw [n11 48 (by omega) (by omega)]⟩
  have an11 := AnE.kp (b := i) hib ta false a i lo m y tl t0 l0 (Nat.le_refl _) hwa kp hra
  have j11 : jGs T11 l0 := fun j hj' => (hj j hj').eq (n11 65 (by omega) (by omega)) (n11 69 (by omega) (by omega)) (n11 11 (by omega) (by omega))
  have p11 : LyP T11 (s + 1) n := ⟨by rw [v94, if_pos rfl], by rw [n11 95 (by omega) (by omega)]; exact h95, by unfold nU; rw [n11 45 (by omega) (by omega)]; exact hU, by unfold inn; rw [n11 11 (by omega) (by omega)]; exact hin, by unfold cn; rw [n11 65 (by omega) (by omega)]; exact hcn⟩
  obtain ⟨kg, T1, g1, q1, q2, q3, q4, q5⟩ := hA T11 d lo m a i (s + 1) fr fl' n y tl t0 l0 an11 (by omega) hwa hib ham j11 p11 (by omega) (by omega) hd (by omega) hlen
  refine ⟨kg, ?_⟩
  have t94 : T1.1 94 = T11.1 94 := q4.2.2.1 94 (by omega) (by omega)
  have t93 : ∀ j, j ≤ s → T1.1 93 j = if j = s then nI m else T.1 93 j := fun j hj => by
    rw [q4.2.2.2.2.2 j (by rw [v94, if_pos rfl, nc (by omega)]; omega)]
    exact v93 j
  have n2 : ∀ g, g ≠ 94 → (sI T1 94 0 (nI s)).1 g = T1.1 g := fun g h => sI_ne h
  have lf2 : LF T (sI T1 94 0 (nI s)) n (n + (ksE l0).length) := by
    refine ⟨q4.1, by rw [n2 95 (by omega)]; exact q4.2.1, fun k a b => ?_, q4.2.2.2.1.trans v2, fun k q a b c => ?_, fun j hj => ?_⟩
    · by_cases e : k = 94
      · subst e
        funext q
        rw [rdI]
        by_cases c : q = 0
        · rw [if_pos ⟨rfl, c⟩, c, hs]
        · rw [if_neg (fun h => c h.2), t94, v94, if_neg c]
      · rw [n2 k e, q4.2.2.1 k a b, n11 k a e]
    · rw [n2 k (by omega), q4.2.2.2.2.1 k q a b c, n11 k (by omega) (by omega)]
    · rw [hs, nc (by omega)] at hj
      rw [n2 93 (by omega), t93 j (by omega), if_neg (by omega)]
  have ly2 : LyL (sI T1 94 0 (nI s)) (ksE l0) n := LyL.eq (fun k _ h => n2 k h) _ _ q5
  obtain ⟨g', rfl⟩ : ∃ q, g1 = q + 1 := ⟨g1 - 1, by omega⟩
  obtain ⟨r, v, T3, e3, w3⟩ := hK _ lf2
  refine ⟨T3, g', by omega, by omega, ?_, ?_⟩
  · have hlt : ¬ nI (s + 1) ≤ nI fr := fun z => by
      have := (nI_leI (by omega) (by omega)).mp z
      omega
    have e94 : T1.1 94 0 = nI (s + 1) := by rw [t94, v94, if_pos rfl]
    rw [step, q3, rl_Model_layExpression_54, e94, if_neg hlt]
    have es : nI (s + 1) - 1 = nI s := nI_sub
    rw [stK, es, sI_v, gd, if_pos zs, cs, n2 93 (by omega), t93 s (Nat.le_refl _), if_pos rfl, e3, bis]
  · exact LyR.tr ⟨lf2, ly2⟩ w3
end LYE
