/-! the code of STEPS: the method's parts -/
def lsR (F : gF) (nf : Nat) (T2 : gSt) (p1 r2 : Int32) : gR := gd (inb p1 8200) <| if (T2.1 50 p1.toNatClampNeg) = (20 : Int32) then (gd (inb p1 8200) <| if (0 : Int32) ≤ (T2.1 52 p1.toNatClampNeg) then (gd (inb p1 8200) <| bi (F 103 T2 [T2.1 52 p1.toNatClampNeg] []) fun r8 l8 T8 => gd (inb p1 8200) <| bi (F 97 T8 [(22 : Int32), T8.1 61 p1.toNatClampNeg, (0 : Int32), (0 : Int32)] []) fun r10 l10 T10 => some (0, 0, T10))
    else (some (0, 0, T2)))
    else (if (T2.1 50 p1.toNatClampNeg) = (21 : Int32) then (gd (inb p1 8200) <| bi (F 103 T2 [T2.1 52 p1.toNatClampNeg] []) fun r13 l13 T13 => gd (inb p1 8200) <| gd (inb (T13.1 52 p1.toNatClampNeg) 8200) <| if (T13.1 60 (T13.1 52 p1.toNatClampNeg).toNatClampNeg) = (0 : Int32) then (rj_Model_layStep_145 F nf T13 p1 (0 : Int32) (0 : Int32) (26 : Int32))
    else (rj_Model_layStep_145 F nf T13 p1 (1 : Int32) (0 : Int32) (26 : Int32)))
    else (if (T2.1 50 p1.toNatClampNeg) = (22 : Int32) then (gd (inb p1 8200) <| bi (F 103 T2 [T2.1 52 p1.toNatClampNeg] []) fun r19 l19 T19 => gd (inb p1 8200) <| gd (inb (T19.1 52 p1.toNatClampNeg) 8200) <| if (T19.1 60 (T19.1 52 p1.toNatClampNeg).toNatClampNeg) = (0 : Int32) then (rj_Model_layStep_258 F nf T19 p1 r2 (0 : Int32) (0 : Int32) (26 : Int32))
    else (rj_Model_layStep_258 F nf T19 p1 r2 (1 : Int32) (0 : Int32) (26 : Int32)))
    else (if (T2.1 50 p1.toNatClampNeg) = (23 : Int32) then (gd (inb p1 8200) <| if (T2.1 52 p1.toNatClampNeg) < (0 : Int32) then (rj_Model_layStep_313 F nf T2 p1)
    else (gd (inb p1 8200) <| bi (F 103 T2 [T2.1 52 p1.toNatClampNeg] []) fun r27 l27 T27 => rj_Model_layStep_313 F nf T27 p1))
    else (if (T2.1 50 p1.toNatClampNeg) = (24 : Int32) then (rj_Model_layStep_508 F nf T2 p1)
    else (if (T2.1 50 p1.toNatClampNeg) = (25 : Int32) then (rj_Model_layStep_508 F nf T2 p1)
    else (if (T2.1 50 p1.toNatClampNeg) = (26 : Int32) then (gd (inb p1 8200) <| gd (inb (T2.1 58 p1.toNatClampNeg) 4000) <| bi (F 97 T2 [(31 : Int32), T2.1 48 (T2.1 58 p1.toNatClampNeg).toNatClampNeg, (0 : Int32), (0 : Int32)] []) fun r33 l33 T33 => gd (inb p1 8200) <| bi (F 99 T33 [T33.1 52 p1.toNatClampNeg] []) fun r35 l35 T35 => gd (inb p1 8200) <| gd (inb (T35.1 58 p1.toNatClampNeg) 4000) <| bi (F 97 T35 [(32 : Int32), T35.1 48 (T35.1 58 p1.toNatClampNeg).toNatClampNeg, (0 : Int32), (0 : Int32)] []) fun r38 l38 T38 => some (0, 0, T38))
    else (if (T2.1 50 p1.toNatClampNeg) = (27 : Int32) then (gd (inb p1 8200) <| gd (inb (T2.1 58 p1.toNatClampNeg) 4000) <| bi (F 97 T2 [(33 : Int32), T2.1 48 (T2.1 58 p1.toNatClampNeg).toNatClampNeg, (0 : Int32), (0 : Int32)] []) fun r42 l42 T42 => some (0, 0, T42))
    else (if (T2.1 50 p1.toNatClampNeg) = (28 : Int32) then (gd (inb p1 8200) <| bi (F 97 T2 [(34 : Int32), (0 : Int32), T2.1 61 p1.toNatClampNeg, (0 : Int32)] []) fun r45 l45 T45 => gd (inb p1 8200) <| bi (F 99 T45 [T45.1 52 p1.toNatClampNeg] []) fun r47 l47 T47 => bi (F 97 T47 [(35 : Int32), (0 : Int32), (0 : Int32), (0 : Int32)] []) fun r48 l48 T48 => bi (F 97 T48 [(27 : Int32), (0 : Int32), (0 : Int32), (0 : Int32)] []) fun r49 l49 T49 => gd (inb r45 12000) <| stK (sI T49 97 r45.toNatClampNeg (T49.1 95 0)) fun T50 => gd (inb p1 8200) <| bi (F 99 T50 [T50.1 53 p1.toNatClampNeg] []) fun r52 l52 T52 => gd (inb r49 12000) <| stK (sI T52 97 r49.toNatClampNeg (T52.1 95 0)) fun T53 => some (0, 0, T53))
    else (if (T2.1 50 p1.toNatClampNeg) = (29 : Int32) then (gd (inb p1 8200) <| bi (F 103 T2 [T2.1 53 p1.toNatClampNeg] []) fun r56 l56 T56 => gd (inb p1 8200) <| bi (F 101 T56 [T56.1 52 p1.toNatClampNeg] []) fun r58 l58 T58 => some (0, 0, T58))
    else (rj_Model_layStep_508 F nf T2 p1))))))))))
def lsP (F : gF) (T60 : gSt) (x1 r60 : Int32) : gR := gd (inb x1 8200) <| bi (F 99 T60 [T60.1 53 x1.toNatClampNeg] []) fun r62 l62 T62 => gd (inb x1 8200) <| if (T62.1 54 x1.toNatClampNeg) < (0 : Int32) then (gd (inb r60 12000) <| stK (sI T62 97 r60.toNatClampNeg (T62.1 95 0)) fun T65 => some (0, 0, T65))
    else (bi (F 97 T62 [(27 : Int32), (0 : Int32), (0 : Int32), (0 : Int32)] []) fun r66 l66 T66 => gd (inb r60 12000) <| stK (sI T66 97 r60.toNatClampNeg (T66.1 95 0)) fun T67 => gd (inb x1 8200) <| bi (F 99 T67 [T67.1 54 x1.toNatClampNeg] []) fun r69 l69 T69 => gd (inb r66 12000) <| stK (sI T69 97 r66.toNatClampNeg (T69.1 95 0)) fun T70 => some (0, 0, T70))
def LtH (X : Lx) (it : Nat) (Tf T : gSt) (t : Tr) (p p' lo hi : Nat) (x ys no : Int32) (j : Nat) (S : gSt) : Prop := AnS X it T t p lo hi x ys no S ∧ NdS X T t p' x ∧ hi ≤ 8200 ∧ Gk X it Tf t ys no j S ∧ EqF T Tf
abbrev LtQ (X : Lx) (it : Nat) (t : Tr) (ys no : Int32) (S : gSt) (n : Nat) (T T' : gSt) : Prop := ∃ n', LF T T' n n' ∧ n' ≤ n + 3 * cws X t ∧ CdS X it T' t ys no S n n'
def LtB (nf : Nat) (X : Lx) (it : Nat) (Tf : gSt) (t : Tr) : Prop := ∀ (T : gSt) (d p p' lo hi : Nat) (x ys no : Int32) (j : Nat) (S : gSt) (n a b v g v' g' : Nat), Ws X t 2 a b v g v' g' → b ≤ xn X → LtH X it Tf T t p p' lo hi x ys no j S → LyP T 0 n → n + 3 * cws X t ≤ 12000 → 2 * bdT t + 300 ≤ d → wp (RR nf d 99 T [x] []) (fun _ _ T' => LtQ X it t ys no S n T T')
def LtT (nf : Nat) (X : Lx) (it : Nat) (Tf : gSt) (t : Tr) : Prop := ∀ (T : gSt) (d p p' lo hi : Nat) (x ys no : Int32) (j : Nat) (S : gSt) (n a b v g v' g' : Nat), Ws X t 0 a b v g v' g' → b ≤ xn X → LtH X it Tf T t p p' lo hi x ys no j S → LyP T 0 n → n + 3 * cws X t ≤ 12000 → 2 * bdT t + 301 ≤ d → wp (RR nf d 100 T [x] []) (fun _ _ T' => LtQ X it t ys no S n T T')
def LtG (nf : Nat) (X : Lx) (it : Nat) (Tf : gSt) (t : Tr) : Prop := ∀ (T : gSt) (d p p' lo hi : Nat) (x ys no : Int32) (j : Nat) (S : gSt) (n a b v g v' g' fl : Nat), Ws X t 1 a b v g v' g' → b ≤ xn X → LtH X it Tf T t p p' lo hi x ys no j S → LyP T 0 n → n + 3 * cws X t ≤ 12000 → 2 * bdT t + 301 ≤ d → hi - lo < fl → wp (rl_Model_layBlock_7 (RR nf d) nf fl T x) (fun _ _ T' => LtQ X it t ys no S n T T')
def LtP (nf : Nat) (X : Lx) (it : Nat) (Tf : gSt) (t : Tr) : Prop := ∀ (T : gSt) (d p lo hi : Nat) (x ys no : Int32) (j : Nat) (S : gSt) (n a b v g v' g' : Nat), Ws X t 3 a b v g v' g' → b ≤ xn X → LtH X it Tf T t p p lo hi x ys no j S → p < 8200 → LyP T 0 (n + 1) → n + 1 + 3 * cws X t ≤ 12000 → 2 * bdT t + 300 ≤ d → wp (lsP (RR nf d) T (nI p) (nI n)) (fun _ _ T' => ∃ n', LF T T' n n' ∧ n < n' ∧ n' ≤ n + 1 + 3 * cws X t ∧ (T'.1 96 n = T.1 96 n ∧ T'.1 98 n = T.1 98 n ∧ T'.1 99 n = T.1 99 n) ∧ CdS X it T' t ys no S n n')
section LST
variable {nf d : Nat} {T T' T1 Tf S : gSt} {X : Lx} {it n n' m k p q u lo hi a b c s i e : Nat} {x y z ty tl ys no : Int32} {j l : T5} {js ks l0 l2 : List T5} {t ta tb : Tr} {Q : Int32 → Int64 → gSt → Prop}
theorem ls_st {pl : Int32} (hm : m < 8200) (h51 : T.1 51 m = pl) (hP : LyP T 0 n) (hn : n < 12000) (h : ∀ T2, LF T T2 n (n + 1) → rwC4 T2 n = (0, pl, 0, 0) → wp (lsR (RR nf (d + 1)) nf T2 (nI m) (nI n)) Q) : wp (RR nf (d + 2) 100 T [nI m] []) Q := by
  have zm : inb (nI m) 8200 := nin (by omega) (by omega)
  have cm : (nI m).toNatClampNeg = m := nc (by omega)
  have := h (ly T n 0 pl 0 0) LF.l1 ly_row
  unfold lsR at this
  rw [e_Model_layStep nf (d + 1)]
  unfold rb_Model_layStep
  rw [gd, if_pos zm, cm, h51, x_lay hP.2.1 hn, bis]
  rw [cm] at this
  exact this
theorem LF.rw (h : LF T T' n n') (hq : q < n) : rwC4 T' q = rwC4 T q := (AgR.lf (a := q) (b := q + 1) h (by omega)).rw (Nat.le_refl _) (by omega)
theorem AnS.lf {v g v' g' : Nat} (h : AnS X it T t p lo hi x ys no S) (hw : Ws X t m a b v g v' g') (hb : b ≤ xn X) (hF : LF T T' n n') : AnS X it T' t p lo hi x ys no S := AnS.kp t _ _ _ _ _ _ _ _ _ _ _ _ _ _ hw hb (Kp.lf hF) h
theorem NdS.lf (h : NdS X T t p x) (hF : LF T T' n n') : NdS X T' t p x := NdS.eq (fun g a b => hF.o (by omega)) t p x h
theorem LyP.lfx (h : LyP T s m) (hF : LF T T' n n') : LyP T' s n' := ⟨by rw [hF.2.2.1 94 (by omega) (by omega)]; exact h.1, hF.2.1, by unfold nU; rw [hF.o (k := 45) (by omega)]; exact h.2.2.1, by unfold inn; rw [hF.o (k := 11) (by omega)]; exact h.2.2.2.1, by unfold cn; rw [hF.o (k := 65) (by omega)]; exact h.2.2.2.2⟩
theorem nzI {q : Nat} (h : q < 100000) : ¬ nI q < 0 := nI_pos (by omega)
theorem nz2 {q : Nat} (h : q < 100000) : (0 : Int32) ≤ nI q := nI_le (a := 0) (b := q) (by omega) (by omega)
/-- a BLOCK -/
theorem lt_b (hnf : 8300 ≤ nf) (hA : LtG nf X it Tf ta) : LtB nf X it Tf (tD k i e ta tb) := by
  intro T d p p' lo hi x ys no j S n a b v g v' g' hw hb hH hP hn hd
  obtain ⟨hA1, hN, hhi, hG, hE⟩ := hH
  rw [Ws_n] at hw
  unfold WsN at hw
  rw [if_pos rfl] at hw
  obtain ⟨rfl, hw, hib⟩ := hw
  obtain ⟨rfl, h2, h3⟩ : x = nI lo ∧ lo < hi ∧ AnS X it T ta (lo + 1) (lo + 1) hi (T.1 52 lo) 0 0 S := hA1
  obtain ⟨q, q1, q2, q3⟩ : ∃ m, m < 8200 ∧ nI lo = nI m ∧ NdS X T ta m (T.1 52 m) := hN
  have eq : lo = q := nI_inj (by omega) (by omega) q2
  subst eq
  have hG2 : Gk X it Tf ta 0 0 0 S := hG.2.2.2
  have hb1 : bdT (tD 31 i e ta tb) = bdT ta + 1 := rfl
  have hc1 : cws X (tD 31 i e ta tb) = cws X ta + 2 := rfl
  have zm : inb (nI lo) 8200 := nin (by omega) (by omega)
  have cm : (nI lo).toNatClampNeg = lo := nc (by omega)
  obtain ⟨d', rfl⟩ : ∃ g, d = g + 1 := ⟨d - 1, by omega⟩
  rw [e_Model_layBlock]
  unfold rb_Model_layBlock
  rw [gd, if_pos zm, cm, vK]
  refine wp_mono (hA T d' (lo + 1) lo (lo + 1) hi (T.1 52 lo) 0 0 0 S n _ _ _ _ _ _ nf hw (by omega) ⟨h3, q3, hhi, hG2, hE⟩ hP (by omega) (by omega) (by omega)) ?_
  intro r v T' ⟨n', f1, f2, f3⟩
  exact ⟨n', f1, by omega, f3⟩
/-- a list of STEPS -/
theorem lt_g0 (hz : ∀ k i e a b, t ≠ tD k i e a b) : LtG nf X it Tf t := by
  intro T d p p' lo hi x ys no j S n a b v g v' g' fl hw hb hH hP hn hd hfl
  have h1 := hH.1
  unfold AnS at h1
  split at h1
  · rename_i k i e a b
    exact absurd rfl (hz k i e a b)
  · subst h1
    obtain ⟨fl', rfl⟩ : ∃ g, fl = g + 1 := ⟨fl - 1, by omega⟩
    rw [rl_Model_layBlock_7, if_pos (by decide)]
    refine wp_some ⟨n, LF.rf hP.2.1, by omega, ?_⟩
    rw [CdS_z hz]
  · exact h1.elim
theorem lt_g (hA : LtT nf X it Tf ta) (hB : LtG nf X it Tf tb) : LtG nf X it Tf (tD k i e ta tb) := by
  intro T d p p' lo hi x ys no j S n a b v g v' g' fl hw hb hH hP hn hd hfl
  obtain ⟨hA1, hN, hhi, hG, hE⟩ := hH
  rw [Ws_n] at hw
  unfold WsN at hw
  rw [if_neg (by omega), if_pos rfl] at hw
  obtain ⟨rfl, c, v1, g1, hwa, hwb⟩ := hw
  have mo := Ws_mo _ _ _ _ _ _ _ _ hwb
  obtain ⟨q, c1, rfl, h2, h3, h4, h5, h6⟩ : ∃ q c, x = nI q ∧ lo ≤ q ∧ q < c ∧ c ≤ hi ∧ AnS X it T ta lo lo c x 0 0 S ∧ AnS X it T tb c c hi (T.1 55 q) 0 0 (stS X it ta 0 0 0 S) := hA1
  obtain ⟨q', q1, q2, q3, q4⟩ : ∃ r, r < 8200 ∧ nI q = nI r ∧ NdS X T ta r (nI q) ∧ NdS X T tb r (T.1 55 r) := hN
  have eq : q = q' := nI_inj (by omega) (by omega) q2
  subst eq
  obtain ⟨gA, gB⟩ : Gk X it Tf ta 0 0 0 S ∧ Gk X it Tf tb 0 0 0 (stS X it ta 0 0 0 S) := hG.2.2.2
  have hb1 : bdT (tD 11 i e ta tb) = max (bdT ta) (bdT tb) := rfl
  have hc1 : cws X (tD 11 i e ta tb) = cws X ta + cws X tb := rfl
  have zm : inb (nI q) 8200 := nin (by omega) (by omega)
  have cm : (nI q).toNatClampNeg = q := nc (by omega)
  obtain ⟨fl', rfl⟩ : ∃ g, fl = g + 1 := ⟨fl - 1, by omega⟩
  obtain ⟨r, w, T1, e1, m1, f1, f2, f3⟩ := hA T d lo q lo c1 (nI q) 0 0 0 S n _ _ _ _ _ _ hwa (by omega) ⟨h5, q3, by omega, gA, hE⟩ hP (by omega) (by omega)
  rw [rl_Model_layBlock_7, if_neg (nzI (by omega)), e1, bis, gd, if_pos zm, cm, vK, f1.o (k := 55) (by omega)]
  have h6' := h6.lf hwb hb f1
  have q4' := q4.lf f1
  refine wp_mono (hB T1 d c1 q c1 hi (T.1 55 q) 0 0 0 (stS X it ta 0 0 0 S) m1 _ _ _ _ _ _ fl' hwb hb ⟨h6', q4', hhi, gB, hE.lf f1⟩ (hP.lf f1) (by omega) (by omega) (by omega)) ?_
  intro r v T' ⟨n', g1, g2, g3⟩
  refine ⟨n', f1.tr g1, by omega, ?_⟩
  rw [CdS_n]
  show ∃ q, n ≤ q ∧ q ≤ n' ∧ CdS X it T' ta 0 0 S n q ∧ CdS X it T' tb 0 0 (stS X it ta 0 0 0 S) q n'
  exact ⟨m1, f1.1, g1.1, CdS.ag ta _ _ _ _ _ (AgR.lf g1 (Nat.le_refl _)) f3, g3⟩
/-- the two BLOCKS of an if -/
theorem lt_p (hA : LtB nf X it Tf ta) (hB : LtB nf X it Tf tb) : LtP nf X it Tf (tD k i e ta tb) := by
  intro T d p lo hi x ys no j S n a b v g v' g' hw hb hH hp hP hn hd
  obtain ⟨hA1, hN, hhi, hG, hE⟩ := hH
  rw [Ws_n] at hw
  unfold WsN at hw
  rw [if_neg (by omega), if_neg (by omega), if_pos rfl] at hw
  obtain ⟨rfl, c, v1, g1, hwa, hwb⟩ := hw
  have cb : c ≤ b := by
    split at hwb
    · exact hwb.2.2
    · have := Ws_mo _ _ _ _ _ _ _ _ hwb; omega
  obtain ⟨c1, h1, h2, h3, h4⟩ : ∃ c, lo < c ∧ c ≤ hi ∧ AnS X it T ta lo lo c (T.1 53 p) 0 0 (kwS S ys) ∧ (if isZ tb = true then T.1 54 p = -1 else AnS X it T tb c c hi (T.1 54 p) 0 0 (prE (stS X it ta) ys no S)) := hA1
  obtain ⟨n1, n2⟩ : NdS X T ta p (T.1 53 p) ∧ NdS X T tb p (T.1 54 p) := hN
  obtain ⟨gA, gB⟩ : Gk X it Tf ta 0 0 0 (kwS S ys) ∧ (isZ tb = true ∨ Gk X it Tf tb 0 0 0 (prE (stS X it ta) ys no S)) := hG.2.2.2
  have hb1 : bdT (tD 12 i e ta tb) = max (bdT ta) (bdT tb) := rfl
  have hc1 : cws X (tD 12 i e ta tb) = if isZ tb = true then cws X ta else cws X ta + cws X tb + 1 := rfl
  have hc2 : cws X ta ≤ cws X (tD 12 i e ta tb) := by
    rw [hc1]
    split <;> omega
  have zm : inb (nI p) 8200 := nin (by omega) (by omega)
  have cm : (nI p).toNatClampNeg = p := nc (by omega)
  have zn : inb (nI n) 12000 := nin (by omega) (by omega)
  have cn' : (nI n).toNatClampNeg = n := nc (by omega)
  obtain ⟨d, rfl⟩ : ∃ g, d = g + 1 := ⟨d - 1, by omega⟩
  obtain ⟨r, w, T1, e1, m1, f1, f2, f3⟩ := hA T (d + 1) lo p lo c1 (T.1 53 p) 0 0 0 (kwS S ys) (n + 1) _ _ _ _ _ _ hwa (by omega) ⟨h3, n1, by omega, gA, hE⟩ hP (by omega) (by omega)
  have l1 := f1.1
  unfold lsP
  simp only [gd, if_pos zm, cm, if_pos zn, cn']
  rw [e1, bis, f1.o (k := 54) (by omega)]
  have fn : LF T T1 n m1 := ⟨by omega, f1.2.1, f1.2.2.1, f1.2.2.2.1, fun k q a b c => f1.2.2.2.2.1 k q a b (by omega), f1.2.2.2.2.2⟩
  have rn : ∀ k, 96 ≤ k → k ≤ 99 → T1.1 k n = T.1 k n := fun k a b => f1.2.2.2.2.1 k n a b (by omega)
  by_cases z : isZ tb = true
  · rw [if_pos z] at h4 hc1
    rw [h4, if_pos (by decide), stK]
    refine wp_some ⟨m1, fn.pt (Nat.le_refl _), by omega, by omega, ⟨by rw [sI_ne (by omega)]; exact rn 96 (by omega) (by omega), by rw [sI_ne (by omega)]; exact rn 98 (by omega) (by omega), by rw [sI_ne (by omega)]; exact rn 99 (by omega) (by omega)⟩, ?_⟩
    rw [CdS_n]
    show ∃ q, n + 1 ≤ q ∧ q ≤ m1 ∧ CdS X it _ ta 0 0 (kwS S ys) (n + 1) q ∧ (if isZ tb = true then m1 = q ∧ (sI T1 97 n (T1.1 95 0)).1 97 n = nI q else _)
    refine ⟨m1, l1, Nat.le_refl _, CdS.ag ta _ _ _ _ _ (AgR.pt (Or.inl (by omega))) f3, ?_⟩
    rw [if_pos z]
    refine ⟨rfl, ?_⟩
    rw [rdI, if_pos ⟨rfl, rfl⟩, f1.2.1]
  · rw [if_neg z] at h4 hc1 hwb
    obtain ⟨q, eq⟩ : ∃ q, T.1 54 p = nI q ∧ q < 8200 := by
      have w := hwb
      rw [show tb = tb from rfl] at w
      have key : ∀ t : Tr, Ws X t 2 (c + 1) b v1 g1 v' g' → AnS X it T t c1 c1 hi (T.1 54 p) 0 0 (prE (stS X it ta) ys no S) → ∃ q, T.1 54 p = nI q ∧ q < 8200 := by
        intro t
        induction t using Tr_ind with
        | hz t hz =>
          intro w
          unfold Ws at w
          split at w
          · exact absurd rfl (hz _ _ _ _ _)
          · exact absurd w.1 (by omega)
          · exact w.elim
        | h k i e ta tb _ _ =>
          intro w h
          rw [Ws_n] at w
          unfold WsN at w
          rw [if_pos rfl] at w
          obtain ⟨rfl, _, _⟩ := w
          rw [AnS_n] at h
          obtain ⟨h1, h2, _⟩ : T.1 54 p = nI c1 ∧ c1 < hi ∧ AnS X it T ta (c1 + 1) (c1 + 1) hi (T.1 52 c1) 0 0 (prE (stS X it _) ys no S) := h
          exact ⟨c1, h1, by omega⟩
      exact key tb hwb h4
    have gB' := gB.resolve_left z
    rw [eq.1, if_neg (nzI (by omega)), x_lay f1.2.1 (by omega), bis, stK]
    have f4 : LF T1 (ly T1 m1 27 0 0 0) m1 (m1 + 1) := LF.l1
    have e95 : (ly T1 m1 27 0 0 0).1 95 0 = nI (m1 + 1) := f4.2.1
    rw [e95]
    have f5 : LF T (sI (ly T1 m1 27 0 0 0) 97 n (nI (m1 + 1))) n (m1 + 1) := (fn.tr f4).pt (Nat.le_refl _)
    have g5 : AgR T1 (sI (ly T1 m1 27 0 0 0) 97 n (nI (m1 + 1))) (n + 1) m1 := (AgR.lf f4 (Nat.le_refl _)).tr (AgR.pt (Or.inl (by omega)))
    have r5 : rwC4 (sI (ly T1 m1 27 0 0 0) 97 n (nI (m1 + 1))) m1 = (27, 0, 0, 0) := by
      rw [(AgR.pt (T := ly T1 m1 27 0 0 0) (q := n) (a := m1) (b := m1 + 1) (x := nI (m1 + 1)) (Or.inl (by omega))).rw (Nat.le_refl _) (by omega), ly_row]
    have n5 : (sI (ly T1 m1 27 0 0 0) 97 n (nI (m1 + 1))).1 97 n = nI (m1 + 1) := by rw [rdI, if_pos ⟨rfl, rfl⟩]
    have k5 : ∀ k, k = 96 ∨ k = 98 ∨ k = 99 → (sI (ly T1 m1 27 0 0 0) 97 n (nI (m1 + 1))).1 k n = T.1 k n := fun k hk => by
      rw [sI_ne (by omega), f4.2.2.2.2.1 k n (by omega) (by omega) (by omega)]
      exact rn k (by omega) (by omega)
    generalize sI (ly T1 m1 27 0 0 0) 97 n (nI (m1 + 1)) = T2 at *
    rw [f5.o (k := 54) (by omega), eq.1]
    have h4' := h4.lf hwb hb f5
    rw [eq.1] at h4'
    have n2' := n2.lf f5
    rw [eq.1] at n2'
    obtain ⟨r2, w2, T3, e3, m3, f6, f7, f8⟩ := hB T2 (d + 1) c1 p c1 hi (nI q) 0 0 0 (prE (stS X it ta) ys no S) (m1 + 1) _ _ _ _ _ _ hwb hb ⟨h4', n2', hhi, gB', hE.lf f5⟩ (LyP.lfx hP f5) (by omega) (by omega)
    have zr : inb (nI m1) 12000 := nin (by omega) (by omega)
    have cr : (nI m1).toNatClampNeg = m1 := nc (by omega)
    rw [e3, bis, if_pos zr, cr, stK, f6.2.1]
    have l6 := f6.1
    have f9 : LF T (sI T3 97 m1 (nI m3)) n m3 := (f5.tr f6).pt (by omega)
    refine wp_some ⟨m3, f9, by omega, by omega, ?_, ?_⟩
    · have kk : ∀ k, k = 96 ∨ k = 98 ∨ k = 99 → (sI T3 97 m1 (nI m3)).1 k n = T.1 k n := fun k hk => by
        rw [sI_ne (by omega), f6.2.2.2.2.1 k n (by omega) (by omega) (by omega)]
        exact k5 k hk
      exact ⟨kk 96 (by omega), kk 98 (by omega), kk 99 (by omega)⟩
    · rw [CdS_n]
      show ∃ q, n + 1 ≤ q ∧ q ≤ m3 ∧ CdS X it _ ta 0 0 (kwS S ys) (n + 1) q ∧ (if isZ tb = true then _ else rwC4 (sI T3 97 m1 (nI m3)) q = (27, nI m3, 0, 0) ∧ (sI T3 97 m1 (nI m3)).1 97 n = nI (q + 1) ∧ q + 1 ≤ m3 ∧ CdS X it (sI T3 97 m1 (nI m3)) tb 0 0 (prE (stS X it ta) ys no S) (q + 1) m3)
      have a1 : AgR T2 (sI T3 97 m1 (nI m3)) (n + 1) m1 := (AgR.lf f6 (by omega)).tr (AgR.pt (Or.inr (by omega)))
      refine ⟨m1, l1, by omega, CdS.ag ta _ _ _ _ _ (g5.tr a1) f3, ?_⟩
      rw [if_neg z]
      refine ⟨?_, ?_, l6, CdS.ag tb _ _ _ _ _ (AgR.pt (Or.inl (by omega))) f8⟩
      · have r6 := f6.rw (q := m1) (by omega)
        rw [r5] at r6
        unfold rwC4 at r6 ⊢
        rw [sI_ne (g' := 96) (by omega), sI_ne (g' := 98) (by omega), sI_ne (g' := 99) (by omega), rdI, if_pos ⟨rfl, rfl⟩]
        simp only [Prod.mk.injEq] at r6 ⊢
        exact ⟨r6.1, trivial, r6.2.2.1, r6.2.2.2⟩
      · rw [rdI, if_neg (fun w => by omega), f6.2.2.2.2.1 97 n (by omega) (by omega) (by omega)]
        exact n5
end LST
