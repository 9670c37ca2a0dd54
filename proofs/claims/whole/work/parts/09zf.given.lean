/-! STEPS in order over their tokens; the vars that a BLOCK gives something to -/
/-- m: 0 a STEP, 1 a list of them, 2 a BLOCK, 3 the two BLOCKS of an if; v g: how many vars and region STEPS were ahead, v' g' then -/
def WsN (X : Lx) (Ea Eb : Nat → Nat → Prop) (Sa Sb : Nat → Nat → Nat → Nat → Nat → Nat → Nat → Prop) (za zb : Bool) (k i e m a b v g v' g' : Nat) : Prop :=
  if m = 2 then k = 31 ∧ Sa 1 (a + 1) i v g v' g' ∧ i < b
  else if m = 1 then k = 11 ∧ ∃ c v1 g1, Sa 0 a c v g v1 g1 ∧ Sb 1 c b v1 g1 v' g'
  else if m = 3 then k = 12 ∧ ∃ c v1 g1, Sa 2 a c v g v1 g1 ∧ (if zb = true then v' = v1 ∧ g' = g1 ∧ c ≤ b else Sb 2 (c + 1) b v1 g1 v' g')
  else if k = 20 then i = a ∧ e = v ∧ v < 20 ∧ v' = v + 1 ∧ g' = g ∧ tyW X 6 (i + 3) ∧ (if za = true then tyE X 6 (i + 3) < b else ∃ c, Ea (tyE X 6 (i + 3) + 1) c ∧ c < b)
  else if k = 21 then i = a ∧ ∃ c, Ea (a + 1) c ∧ Sb 3 c b v g v' g'
  else if k = 22 then i = a ∧ ∃ c, Ea (a + 1) c ∧ Sb 2 c b v g v' g'
  else if k = 23 then i = a ∧ v' = v ∧ g' = g ∧ (if za = true then a + 1 < b else ∃ c, Ea (a + 1) c ∧ c < b)
  else if k = 24 ∨ k = 25 then i = a ∧ v' = v ∧ g' = g ∧ ∃ c, Ea (a + 1) c ∧ c < b
  else if k = 30 then i = a ∧ v' = v ∧ g' = g ∧ ∃ c, Ea a c ∧ c < b
  else if k = 29 then i = a ∧ v' = v ∧ g' = g ∧ ∃ c c2, Ea a c ∧ Eb (c + 1) c2 ∧ c2 < b
  else if k = 26 then i = a ∧ g < 8 ∧ Sa 2 (a + 2) b v (g + 1) v' g'
  else if k = 27 then i = a ∧ v' = v ∧ g' = g ∧ a + 2 < b
  else if k = 28 then i = a ∧ ∃ c v1 g1, Sa 2 (a + 1) c v g v1 g1 ∧ Sb 2 (c + 1) b v1 g1 v' g'
  else False
def Ws (X : Lx) : Tr → Nat → Nat → Nat → Nat → Nat → Nat → Nat → Prop
  | .add (.add (.var k) (.add (.var i) (.var e))) (.add ta tb), m, a, b, v, g, v', g' => WsN X (fun a b => Wf X ta false a b ∧ dpT ta ≤ 40) (fun a b => Wf X tb false a b ∧ dpT tb ≤ 40) (Ws X ta) (Ws X tb) (isZ ta) (isZ tb) k i e m a b v g v' g'
  | .num _, m, a, b, v, g, v', g' => m = 1 ∧ a ≤ b ∧ v' = v ∧ g' = g
  | _, _, _, _, _, _, _, _ => False
def gvN (X : Lx) (A B : gSt → Int32 → Int32) (ta tb : Tr) (k : Nat) (T : gSt) (acc : Int32) : Int32 :=
  if k = 31 then A T acc else if k = 11 then B T (A T acc)
  else if k = 29 then (if tkd X ta = 4 ∧ ¬ fd (isVa T (xN X (lfI ta))) (vn T) < 0 then acc ||| (1 <<< (tf T 79 (fd (isVa T (xN X (lfI ta))) (vn T)) &&& 31)) else acc)
  else if k = 21 then B T acc
  else if k = 12 then (if isZ tb = true then acc ||| A T 0 else acc ||| A T 0 ||| B T 0)
  else if k = 22 then acc ||| B T 0
  else if k = 26 then acc ||| A T 0
  else if k = 28 then acc ||| (A T 0 ||| B T 0)
  else acc
def gvA (X : Lx) : Tr → gSt → Int32 → Int32
  | .add (.add (.var k) (.add (.var _) (.var _))) (.add a b), T, acc => gvN X (gvA X a) (gvA X b) a b k T acc
  | _, _, acc => acc
def bdT : Tr → Nat
  | .add (.add (.var k) (.add (.var _) (.var _))) (.add a b) => if k = 31 then bdT a + 1 else if k = 11 ∨ k = 12 ∨ k = 28 then max (bdT a) (bdT b) else if k = 21 ∨ k = 22 then bdT b else if k = 26 then bdT a else 0
  | _ => 0
abbrev Vk (T : gSt) : Prop := T.1 77 0 = nI (vn T) ∧ vn T ≤ 20
def gvBd (F : gF) (nf : Nat) (rec : gSt → Int32 → Int32 → gR) (T : gSt) (x2 x3 : Int32) : gR := gd (inb x3 8200) <| if (T.1 50 x3.toNatClampNeg) = (29 : Int32) then (gd (inb x3 8200) <| gd (inb (T.1 52 x3.toNatClampNeg) 8200) <| if (T.1 50 (T.1 52 x3.toNatClampNeg).toNatClampNeg) = (4 : Int32) then (gd (inb x3 8200) <| gd (inb (T.1 52 x3.toNatClampNeg) 8200) <| bi (F 51 T [] [T.2 56 (T.1 52 x3.toNatClampNeg).toNatClampNeg]) fun r12 _ T12 => if r12 < (0 : Int32) then (rj_Model_given_73 F nf rec T12 x2 x3)
    else (gd (inb r12 20) <| vK (x2 ||| ((1 : Int32) <<< ((T12.1 79 r12.toNatClampNeg) &&& 31))) fun z15 => rj_Model_given_73 F nf rec T12 z15 x3))
    else (rj_Model_given_73 F nf rec T x2 x3))
    else (rj_Model_given_73 F nf rec T x2 x3)
def GvB (nf : Nat) (X : Lx) (t : Tr) : Prop := ∀ (T : gSt) (d lo hi a b v g v' g' : Nat) (x : Int32), RepS X T t lo lo hi x → hi ≤ 8200 → Ws X t 2 a b v g v' g' → Vk T → bdT t + 1 ≤ d → RR nf d 79 T [x] [] = some (gvA X t T 0, 0, T)
def GvL (nf : Nat) (X : Lx) (t : Tr) : Prop := ∀ (T : gSt) (d lo hi a b v g v' g' fl : Nat) (x acc : Int32), RepS X T t lo lo hi x → hi ≤ 8200 → Ws X t 1 a b v g v' g' → Vk T → bdT t + 1 ≤ d → hi - lo < fl → rl_Model_given_9 (RR nf d) nf fl T acc x = some (gvA X t T acc, 0, T)
def GvS (nf : Nat) (X : Lx) (t : Tr) : Prop := ∀ (T : gSt) (d lo hi a b v g v' g' : Nat) (x acc : Int32) (rec : gSt → Int32 → Int32 → gR), RepS X T t lo lo hi x → hi ≤ 8200 → Ws X t 0 a b v g v' g' → Vk T → bdT t + 1 ≤ d → ∃ q, x = nI q ∧ lo ≤ q ∧ q < hi ∧ gvBd (RR nf d) nf rec T acc x = rec T (gvA X t T acc) (T.1 55 q)
def GvP (nf : Nat) (X : Lx) (t : Tr) : Prop := ∀ (T : gSt) (d q lo hi a b v g v' g' : Nat) (x acc : Int32) (rec : gSt → Int32 → Int32 → gR), RepS X T t q lo hi x → q < 8200 → hi ≤ 8200 → T.1 50 q = 21 → Ws X t 3 a b v g v' g' → Vk T → bdT t + 1 ≤ d → rj_Model_given_73 (RR nf d) nf rec T acc (nI q) = rec T (gvA X t T acc) (T.1 55 q)
section GV
variable {nf d : Nat} {T : gSt} {X : Lx} {k i e m a b v g v' g' p lo hi q : Nat} {x acc : Int32} {ta tb t : Tr} {rec : gSt → Int32 → Int32 → gR}
theorem Ws_n : Ws X (tD k i e ta tb) m a b v g v' g' = WsN X (fun a b => Wf X ta false a b ∧ dpT ta ≤ 40) (fun a b => Wf X tb false a b ∧ dpT tb ≤ 40) (Ws X ta) (Ws X tb) (isZ ta) (isZ tb) k i e m a b v g v' g' := rfl
theorem gvA_n : gvA X (tD k i e ta tb) T acc = gvN X (gvA X ta) (gvA X tb) ta tb k T acc := rfl
theorem bdT_n : bdT (tD k i e ta tb) = if k = 31 then bdT ta + 1 else if k = 11 ∨ k = 12 ∨ k = 28 then max (bdT ta) (bdT tb) else if k = 21 ∨ k = 22 then bdT tb else if k = 26 then bdT ta else 0 := rfl
theorem isZ_rep (h : isZ t = true) (hR : RepS X T t p lo hi x) : x = -1 := by
  unfold isZ at h
  split at h
  · exact hR.1
  · exact absurd h (by decide)
theorem g73 (hq : q < 8200) (h1 : ¬ T.1 50 q = 21) (h2 : ¬ T.1 50 q = 22) (h3 : ¬ T.1 50 q = 26) (h4 : ¬ T.1 50 q = 28) : rj_Model_given_73 (RR nf d) nf rec T acc (nI q) = rec T acc (T.1 55 q) := by
  have zq : inb (nI q) 8200 := nin (by omega) (by omega)
  have cq : (nI q).toNatClampNeg = q := nc (by omega)
  unfold rj_Model_given_73 rj_Model_given_108 rj_Model_given_141 rj_Model_given_165
  simp only [gd, if_pos zq, cq, if_neg h1, if_neg h2, if_neg h3, if_neg h4, vK]
theorem gbd0 (hq : q < 8200) (h1 : ¬ T.1 50 q = 29) : gvBd (RR nf d) nf rec T acc (nI q) = rj_Model_given_73 (RR nf d) nf rec T acc (nI q) := by
  have zq : inb (nI q) 8200 := nin (by omega) (by omega)
  have cq : (nI q).toNatClampNeg = q := nc (by omega)
  unfold gvBd
  simp only [gd, if_pos zq, cq, if_neg h1]
theorem Ws_2 (t : Tr) : Ws X t 2 a b v g v' g' → ∃ i e ta tb, t = tD 31 i e ta tb ∧ Ws X ta 1 (a + 1) i v g v' g' ∧ i < b := by
  induction t using Tr_ind with
  | hz t hz =>
    intro h
    unfold Ws at h
    split at h
    · rename_i k i e a b
      exact absurd rfl (hz k i e a b)
    · exact absurd h.1 (by omega)
    · exact h.elim
  | h k i e ta tb _ _ =>
    intro h
    rw [Ws_n] at h
    unfold WsN at h
    rw [if_pos rfl] at h
    obtain ⟨rfl, h1, h2⟩ := h
    exact ⟨i, e, ta, tb, rfl, h1, h2⟩
theorem RepS_2 (hR : RepS X T (tD 31 i e ta tb) p lo hi x) : x = nI lo ∧ lo < hi ∧ T.1 50 lo = 31 ∧ T.1 57 lo = nI (xP X i) ∧ RepS X T ta (lo + 1) (lo + 1) hi (T.1 52 lo) := by
  rw [RepS_n] at hR
  unfold RsN at hR
  simp only [if_neg (show ¬ (31 = 20) by omega), if_neg (show ¬ (31 = 21) by omega), if_neg (show ¬ (31 = 12) by omega), if_neg (show ¬ (31 = 22) by omega), if_neg (show ¬ (31 = 23) by omega), if_neg (show ¬ (31 = 24 ∨ 31 = 25 ∨ 31 = 30) by omega), if_neg (show ¬ (31 = 29) by omega), if_neg (show ¬ (31 = 26) by omega), if_neg (show ¬ (31 = 27) by omega), if_neg (show ¬ (31 = 28) by omega), if_pos (rfl : 31 = 31)] at hR
  exact hR
theorem gv_pair (hA : GvB nf X ta) (hB : GvB nf X tb) : GvP nf X (tD k i e ta tb) := by
  intro T d q lo hi a b v g v' g' x acc rec hR hq hhi h50 hw hv hd
  rw [Ws_n] at hw
  unfold WsN at hw
  simp only [if_neg (show ¬ (3 = 2) by omega), if_neg (show ¬ (3 = 1) by omega), if_pos (rfl : 3 = 3)] at hw
  obtain ⟨rfl, c, v1, g1, w1, w2⟩ := hw
  rw [RepS_n] at hR
  unfold RsN at hR
  simp only [if_neg (show ¬ (12 = 20) by omega), if_neg (show ¬ (12 = 21) by omega), if_pos (rfl : 12 = 12)] at hR
  obtain ⟨c', r1, r2, r3, r4⟩ := hR
  rw [bdT_n, if_neg (by omega), if_pos (by omega)] at hd
  have zq : inb (nI q) 8200 := nin (by omega) (by omega)
  have cq : (nI q).toNatClampNeg = q := nc (by omega)
  have eA := hA T d lo c' _ _ _ _ _ _ _ r3 (by omega) w1 hv (by omega)
  rw [gvA_n]
  unfold gvN
  simp only [if_neg (show ¬ (12 = 31) by omega), if_neg (show ¬ (12 = 11) by omega), if_neg (show ¬ (12 = 29) by omega), if_neg (show ¬ (12 = 21) by omega), if_pos (rfl : 12 = 12), if_true]
  have n26 : ¬ T.1 50 q = 26 := by rw [h50]; decide
  have n28 : ¬ T.1 50 q = 28 := by rw [h50]; decide
  have e165 : ∀ ac, rj_Model_given_165 (RR nf d) nf rec T ac (nI q) = rec T ac (T.1 55 q) := by
    intro ac
    unfold rj_Model_given_165
    simp only [gd, if_pos zq, cq, if_neg n28, vK]
  have e141 : ∀ ac, rj_Model_given_141 (RR nf d) nf rec T ac (nI q) = rec T ac (T.1 55 q) := by
    intro ac
    unfold rj_Model_given_141
    simp only [gd, if_pos zq, cq, if_neg n26]
    exact e165 ac
  have e108 : ∀ ac, rj_Model_given_108 (RR nf d) nf rec T ac (nI q) = rec T (if isZ tb = true then ac else ac ||| gvA X tb T 0) (T.1 55 q) := by
    intro ac
    unfold rj_Model_given_108
    simp only [gd, if_pos zq, cq, if_pos h50]
    by_cases z : isZ tb = true
    · rw [if_pos z, if_pos (show T.1 54 q < 0 by rw [isZ_rep z r4]; decide)]
      exact e141 ac
    · rw [if_neg z] at w2 ⊢
      have eB := hB T d c' hi _ _ _ _ _ _ _ r4 hhi w2 hv (by omega)
      obtain ⟨i2, e2, ta2, tb2, rfl, w3, w4⟩ := Ws_2 tb w2
      have h54 : ¬ T.1 54 q < 0 := by
        have h5 := RepS_2 r4
        rw [h5.1]
        exact nI_pos (by omega)
      rw [if_neg h54, eB, bis]
      simp only [vK]
      exact e141 _
  unfold rj_Model_given_73
  simp only [gd, if_pos zq, cq, if_pos h50]
  rw [eA, bis]
  simp only [vK]
  rw [e108]
theorem gv_blk (hnf : 8300 ≤ nf) (hA : GvL nf X ta) : GvB nf X (tD k i e ta tb) := by
  intro T d lo hi a b v g v' g' x hR hhi hw hv hd
  obtain ⟨i2, e2, ta2, tb2, he, w3, w4⟩ := Ws_2 _ hw
  have hk : k = 31 ∧ ta2 = ta ∧ i2 = i := by
    unfold tD at he
    injection he with h1 h2
    injection h1 with h3 h4
    injection h2 with h5 h6
    injection h3 with h7
    injection h4 with h8 h9
    injection h8 with h10
    exact ⟨h7, h5.symm, h10.symm⟩
  obtain ⟨rfl, rfl, rfl⟩ := hk
  obtain ⟨r1, r2, r3, r4, r5⟩ := RepS_2 hR
  rw [bdT_n, if_pos rfl] at hd
  obtain ⟨d', rfl⟩ : ∃ g, d = g + 1 := ⟨d - 1, by omega⟩
  have zq : inb (nI lo) 8200 := nin (by omega) (by omega)
  have cq : (nI lo).toNatClampNeg = lo := nc (by omega)
  rw [r1, e_Model_given nf d']
  unfold rb_Model_given
  simp only [gd, if_pos zq, cq, vK]
  rw [hA T d' (lo + 1) hi _ _ _ _ _ _ nf _ 0 r5 hhi w3 hv (by omega) (by omega)]
  rfl
theorem gv_step (hnf : 8300 ≤ nf) (hA : GvB nf X ta) (hB : GvB nf X tb) (hP : GvP nf X tb) : GvS nf X (tD k i e ta tb) := by
  intro T d lo hi a b v g v' g' x acc rec hR hhi hw hv hd
  rw [Ws_n] at hw
  unfold WsN at hw
  simp only [if_neg (show ¬ (0 = 2) by omega), if_neg (show ¬ (0 = 1) by omega), if_neg (show ¬ (0 = 3) by omega)] at hw
  rw [RepS_n] at hR
  unfold RsN at hR
  rw [gvA_n]
  unfold gvN
  have zz : ∀ q, q < 8200 → inb (nI q) 8200 := fun q h => nin (by omega) (by omega)
  have plain : ∀ (q n : Nat), x = nI q → lo ≤ q → q < hi → T.1 50 q = nI n → n < 100 → n ≠ 29 → n ≠ 21 → n ≠ 22 → n ≠ 26 → n ≠ 28 → ∃ q, x = nI q ∧ lo ≤ q ∧ q < hi ∧ gvBd (RR nf d) nf rec T acc x = rec T acc (T.1 55 q) := by
    intro q n h1 h2 h3 h4 h5 n1 n2 n3 n4 n5
    have ne : ∀ j : Nat, j < 100 → n ≠ j → ¬ T.1 50 q = nI j := fun j hj hn h => hn (nI_inj (by omega) (by omega) (h4.symm.trans h))
    refine ⟨q, h1, h2, h3, ?_⟩
    rw [h1, gbd0 (by omega) (ne 29 (by omega) n1), g73 (by omega) (ne 21 (by omega) n2) (ne 22 (by omega) n3) (ne 26 (by omega) n4) (ne 28 (by omega) n5)]
  by_cases c : k = 20
  · subst c
    simp only [if_pos] at hR
    obtain ⟨r1, r2, r3, _⟩ := hR
    exact plain lo 20 r1 (Nat.le_refl _) r2 r3 (by omega) (by omega) (by omega) (by omega) (by omega) (by omega)
  simp only [if_neg c] at hw hR; clear c
  by_cases c : k = 21
  · subst c
    simp only [if_pos] at hw hR
    obtain ⟨w1, c1, w2, w3⟩ := hw
    obtain ⟨r1, r2, r3, c2, r4, r5, r6, r7⟩ := hR
    rw [bdT_n, if_neg (by omega), if_neg (by omega), if_pos (by omega)] at hd
    refine ⟨lo, r1, Nat.le_refl _, by omega, ?_⟩
    rw [r1, gbd0 (by omega) (by rw [r2]; decide)]
    exact hP T d lo c2 hi _ _ _ _ _ _ x acc rec r7 (by omega) hhi r2 w3 hv (by omega)
  simp only [if_neg c] at hw hR; clear c
  by_cases c : k = 12
  · subst c
    exfalso
    simp only [if_neg (show ¬ (12 = 22) by omega), if_neg (show ¬ (12 = 23) by omega), if_neg (show ¬ (12 = 24 ∨ 12 = 25) by omega), if_neg (show ¬ (12 = 30) by omega), if_neg (show ¬ (12 = 29) by omega), if_neg (show ¬ (12 = 26) by omega), if_neg (show ¬ (12 = 27) by omega), if_neg (show ¬ (12 = 28) by omega)] at hw
  simp only [if_neg c] at hR; clear c
  have step : ∀ (q n : Nat), q < 8200 → T.1 50 q = nI n → n < 100 → n ≠ 21 → (∀ ac, rj_Model_given_165 (RR nf d) nf rec T ac (nI q) = rec T (if n = 28 then ac ||| (gvA X ta T 0 ||| gvA X tb T 0) else ac) (T.1 55 q)) → (n = 22 → RR nf d 79 T [T.1 53 q] [] = some (gvA X tb T 0, 0, T)) → (n = 26 → RR nf d 79 T [T.1 52 q] [] = some (gvA X ta T 0, 0, T)) → ∀ ac, rj_Model_given_73 (RR nf d) nf rec T ac (nI q) = rec T (if n = 22 then ac ||| gvA X tb T 0 else if n = 26 then ac ||| gvA X ta T 0 else if n = 28 then ac ||| (gvA X ta T 0 ||| gvA X tb T 0) else ac) (T.1 55 q) := by
    intro q n hq h4 h5 n1 h165 h22 h26 ac
    have zq : inb (nI q) 8200 := zz q hq
    have cq : (nI q).toNatClampNeg = q := nc (by omega)
    have ne : ∀ j : Nat, j < 100 → n ≠ j → ¬ T.1 50 q = nI j := fun j hj hn h => hn (nI_inj (by omega) (by omega) (h4.symm.trans h))
    have n21 : ¬ T.1 50 q = 21 := ne 21 (by omega) n1
    have e141 : ∀ ac, rj_Model_given_141 (RR nf d) nf rec T ac (nI q) = rec T (if n = 26 then ac ||| gvA X ta T 0 else if n = 28 then ac ||| (gvA X ta T 0 ||| gvA X tb T 0) else ac) (T.1 55 q) := by
      intro ac
      unfold rj_Model_given_141
      simp only [gd, if_pos zq, cq]
      by_cases c : n = 26
      · rw [if_pos (show T.1 50 q = 26 by rw [h4, c]; rfl), h26 c, bis, if_pos c]
        simp only [vK]
        rw [h165, if_neg (by omega)]
      · rw [if_neg (show ¬ T.1 50 q = 26 from ne 26 (by omega) c), if_neg c]
        exact h165 ac
    have e108 : ∀ ac, rj_Model_given_108 (RR nf d) nf rec T ac (nI q) = rec T (if n = 26 then ac ||| gvA X ta T 0 else if n = 28 then ac ||| (gvA X ta T 0 ||| gvA X tb T 0) else ac) (T.1 55 q) := by
      intro ac
      unfold rj_Model_given_108
      simp only [gd, if_pos zq, cq, if_neg n21]
      exact e141 ac
    unfold rj_Model_given_73
    simp only [gd, if_pos zq, cq, if_neg n21]
    by_cases c : n = 22
    · rw [if_pos (show T.1 50 q = 22 by rw [h4, c]; rfl), h22 c, bis, if_pos c]
      simp only [vK]
      rw [e108, if_neg (by omega), if_neg (by omega)]
    · rw [if_neg (show ¬ T.1 50 q = 22 from ne 22 (by omega) c), if_neg c]
      exact e108 ac
  have p165 : ∀ (q n : Nat), q < 8200 → T.1 50 q = nI n → n < 100 → n ≠ 28 → ∀ ac, rj_Model_given_165 (RR nf d) nf rec T ac (nI q) = rec T (if n = 28 then ac ||| (gvA X ta T 0 ||| gvA X tb T 0) else ac) (T.1 55 q) := by
    intro q n hq h4 h5 n1 ac
    have zq : inb (nI q) 8200 := zz q hq
    have cq : (nI q).toNatClampNeg = q := nc (by omega)
    have ne : ¬ T.1 50 q = 28 := fun h => n1 (nI_inj (b := 28) (by omega) (by omega) (h4.symm.trans h))
    unfold rj_Model_given_165
    simp only [gd, if_pos zq, cq, if_neg ne, vK, if_neg n1]
  by_cases c : k = 22
  · subst c
    simp only [if_pos] at hw hR
    obtain ⟨w1, c1, w2, w3⟩ := hw
    obtain ⟨r1, r2, r3, c2, r4, r5, r6, r7⟩ := hR
    rw [bdT_n, if_neg (by omega), if_neg (by omega), if_pos (by omega)] at hd
    refine ⟨lo, r1, Nat.le_refl _, by omega, ?_⟩
    rw [r1, gbd0 (by omega) (by rw [r2]; decide), step lo 22 (by omega) r2 (by omega) (by omega) (p165 lo 22 (by omega) r2 (by omega) (by omega)) (fun _ => hB T d c2 hi _ _ _ _ _ _ _ r7 hhi w3 hv (by omega)) (fun h => absurd h (by omega))]
    rfl
  simp only [if_neg c] at hw hR; clear c
  by_cases c : k = 23
  · subst c
    simp only [if_pos] at hR
    obtain ⟨r1, r2, r3, _⟩ := hR
    exact plain lo 23 r1 (Nat.le_refl _) r2 r3 (by omega) (by omega) (by omega) (by omega) (by omega) (by omega)
  simp only [if_neg c] at hw hR; clear c
  by_cases c : k = 24 ∨ k = 25 ∨ k = 30
  · simp only [if_pos c] at hR
    obtain ⟨m, r1, r2, r3, r4, r5, _⟩ := hR
    have := plain m k r1 r2 (by omega) r5 (by omega) (by omega) (by omega) (by omega) (by omega) (by omega)
    rw [if_neg (by omega), if_neg (by omega), if_neg (by omega), if_neg (by omega), if_neg (by omega), if_neg (by omega), if_neg (by omega), if_neg (by omega)]
    exact this
  simp only [if_neg c] at hR
  rw [if_neg (by omega), if_neg (show ¬ k = 30 by omega)] at hw
  clear c
  by_cases c : k = 29
  · subst c
    simp only [if_pos] at hw hR
    obtain ⟨w1, w2, w3, c1, c2, ⟨w4, -⟩, w5, w6⟩ := hw
    obtain ⟨m, r1, r2, r3, r4, r5, r6, r7⟩ := hR
    obtain ⟨my, y1, y2, y3, y4, y5⟩ := RepM_nd ta _ _ _ _ _ r4 w4
    have zm := zz m (by omega)
    have cm : (nI m).toNatClampNeg = m := nc (by omega)
    have zy := zz my (by omega)
    have cy : (nI my).toNatClampNeg = my := nc (by omega)
    have t30 := tkd_lt (X := X) ta
    have e29 : ∀ ac, rj_Model_given_73 (RR nf d) nf rec T ac (nI m) = rec T ac (T.1 55 m) := fun ac => g73 (by omega) (by rw [r6]; decide) (by rw [r6]; decide) (by rw [r6]; decide) (by rw [r6]; decide)
    refine ⟨m, r1, r2, r3, ?_⟩
    rw [r1]
    unfold gvBd
    simp only [gd, if_pos zm, cm, if_pos r6, y1, if_pos zy, cy]
    show _ = rec T (if tkd X ta = 4 ∧ ¬ fd (isVa T (xN X (lfI ta))) (vn T) < 0 then acc ||| (1 <<< (tf T 79 (fd (isVa T (xN X (lfI ta))) (vn T)) &&& 31)) else acc) (T.1 55 m)
    by_cases k4 : tkd X ta = 4
    · obtain ⟨m', m1', m2', m3'⟩ := RepM_nm ta _ _ _ _ _ r4 w4 k4
      have em : my = m' := nI_inj (by omega) (by omega) (y1.symm.trans m1')
      subst em
      obtain ⟨d', rfl⟩ : ∃ g, d = g + 1 := ⟨d - 1, by omega⟩
      rw [if_pos (show T.1 50 my = 4 by rw [y5, k4]; rfl), m3', x_var hv.1 hv.2 (by omega), bis]
      by_cases k5 : fd (isVa T (xN X (lfI ta))) (vn T) < 0
      · rw [if_pos k5, if_neg (fun q => q.2 k5)]
        exact e29 acc
      · rw [if_neg k5]
        have hfd : ∀ n, n ≤ 20 → fd (isVa T (xN X (lfI ta))) n = -1 ∨ ∃ j, j < n ∧ fd (isVa T (xN X (lfI ta))) n = nI j := by
          intro n
          induction n with
          | zero => intro _; exact Or.inl rfl
          | succ n ih =>
            intro hn
            rw [fd]
            by_cases c : isVa T (xN X (lfI ta)) n = true
            · rw [if_pos c]; exact Or.inr ⟨n, by omega, rfl⟩
            · rw [if_neg c]
              rcases ih (by omega) with h | ⟨j, a, b⟩
              · exact Or.inl h
              · exact Or.inr ⟨j, by omega, b⟩
        have zv : inb (fd (isVa T (xN X (lfI ta))) (vn T)) 20 := by
          rcases hfd (vn T) hv.2 with h | ⟨j, j1, j2⟩
          · rw [h] at k5; exact absurd (by decide) k5
          · rw [j2]; have := hv.2; exact nin (by omega) (by omega)
        rw [if_pos zv, if_pos (show tkd X ta = 4 ∧ ¬ fd (isVa T (xN X (lfI ta))) (vn T) < 0 from ⟨k4, k5⟩)]
        simp only [vK]
        exact e29 _
    · rw [if_neg (show ¬ T.1 50 my = 4 from fun h => k4 (nI_inj (b := 4) (by omega) (by omega) (y5.symm.trans h))), if_neg (fun q => k4 q.1)]
      exact e29 acc
  simp only [if_neg c] at hw hR; clear c
  by_cases c : k = 26
  · subst c
    simp only [if_pos] at hw hR
    obtain ⟨w1, w2, w3⟩ := hw
    obtain ⟨r1, r2, r3, r4, r5, r6⟩ := hR
    rw [bdT_n, if_neg (by omega), if_neg (by omega), if_neg (by omega), if_pos (by omega)] at hd
    refine ⟨lo, r1, Nat.le_refl _, by omega, ?_⟩
    rw [r1, gbd0 (by omega) (by rw [r3]; decide), step lo 26 (by omega) r3 (by omega) (by omega) (p165 lo 26 (by omega) r3 (by omega) (by omega)) (fun h => absurd h (by omega)) (fun _ => hA T d (lo + 1) hi _ _ _ _ _ _ _ r6 hhi w3 hv (by omega))]
    rfl
  simp only [if_neg c] at hw hR; clear c
  by_cases c : k = 27
  · subst c
    simp only [if_pos] at hR
    obtain ⟨r1, r2, r3, _⟩ := hR
    exact plain lo 27 r1 (Nat.le_refl _) (by omega) r3 (by omega) (by omega) (by omega) (by omega) (by omega) (by omega)
  simp only [if_neg c] at hw hR; clear c
  by_cases c : k = 28
  · subst c
    simp only [if_pos] at hw hR
    obtain ⟨w1, c1, v1, g1, w2, w3⟩ := hw
    obtain ⟨r1, r2, r3, c2, r4, r5, r6, r7⟩ := hR
    rw [bdT_n, if_neg (by omega), if_pos (by omega)] at hd
    have zq := zz lo (by omega)
    have cq : (nI lo).toNatClampNeg = lo := nc (by omega)
    have eA := hA T d (lo + 1) c2 _ _ _ _ _ _ _ r6 (by omega) w2 hv (by omega)
    have eB := hB T d c2 hi _ _ _ _ _ _ _ r7 hhi w3 hv (by omega)
    refine ⟨lo, r1, Nat.le_refl _, by omega, ?_⟩
    rw [r1, gbd0 (by omega) (by rw [r2]; decide), step lo 28 (by omega) r2 (by omega) (by omega) (fun ac => ?_) (fun h => absurd h (by omega)) (fun h => absurd h (by omega))]
    · rfl
    · unfold rj_Model_given_165
      simp only [gd, if_pos zq, cq]
      rw [if_pos (show T.1 50 lo = 28 from r2), eA, bis, eB, bis]
      rfl
  simp only [if_neg c] at hw
theorem gv_list (hA : GvS nf X ta) (hB : GvL nf X tb) : GvL nf X (tD k i e ta tb) := by
  intro T d lo hi a b v g v' g' fl x acc hR hhi hw hv hd hfl
  rw [Ws_n] at hw
  unfold WsN at hw
  simp only [if_neg (show ¬ (1 = 2) by omega), if_pos (rfl : 1 = 1)] at hw
  obtain ⟨rfl, c, v1, g1, w1, w2⟩ := hw
  rw [RepS_n] at hR
  unfold RsN at hR
  simp only [if_neg (show ¬ (11 = 20) by omega), if_neg (show ¬ (11 = 21) by omega), if_neg (show ¬ (11 = 12) by omega), if_neg (show ¬ (11 = 22) by omega), if_neg (show ¬ (11 = 23) by omega), if_neg (show ¬ (11 = 24 ∨ 11 = 25 ∨ 11 = 30) by omega), if_neg (show ¬ (11 = 29) by omega), if_neg (show ¬ (11 = 26) by omega), if_neg (show ¬ (11 = 27) by omega), if_neg (show ¬ (11 = 28) by omega), if_neg (show ¬ (11 = 31) by omega), if_pos (rfl : 11 = 11)] at hR
  obtain ⟨q, c', r1, r2, r3, r4, r5, r6⟩ := hR
  rw [bdT_n, if_neg (by omega), if_pos (by omega)] at hd
  obtain ⟨fl', rfl⟩ : ∃ g, fl = g + 1 := ⟨fl - 1, by omega⟩
  obtain ⟨q', q1, q2, q3, q4⟩ := hA T d lo c' _ _ _ _ _ _ x acc (rl_Model_given_9 (RR nf d) nf fl') r5 (by omega) w1 hv (by omega)
  have eq : q' = q := nI_inj (by omega) (by omega) (q1.symm.trans r1)
  subst eq
  have hx : ¬ x < 0 := by rw [r1]; exact nI_pos (by omega)
  have e1 : rl_Model_given_9 (RR nf d) nf (fl' + 1) T acc x = gvBd (RR nf d) nf (rl_Model_given_9 (RR nf d) nf fl') T acc x := by
    rw [rl_Model_given_9, if_neg hx]
    rfl
  rw [e1, q4, hB T d c' hi _ _ _ _ _ _ fl' _ _ r6 hhi w2 hv (by omega) (by omega)]
  rfl
theorem gv_all (hnf : 8300 ≤ nf) (t : Tr) : GvB nf X t ∧ GvL nf X t ∧ GvS nf X t ∧ GvP nf X t := by
  induction t using Tr_ind with
  | h k i e ta tb ihA ihB => exact ⟨gv_blk hnf ihA.2.1, gv_list ihA.2.2.1 ihB.2.1, gv_step hnf ihA.1 ihB.1 ihB.2.2.2, gv_pair ihA.1 ihB.1⟩
  | hz t hz =>
    have key : ∀ m a b v g v' g', Ws X t m a b v g v' g' → m = 1 := by
      intro m a b v g v' g' h
      unfold Ws at h
      split at h
      · rename_i k i e a b
        exact absurd rfl (hz k i e a b)
      · exact h.1
      · exact h.elim
    refine ⟨?_, ?_, ?_, ?_⟩
    · intro T d lo hi a b v g v' g' x hR hhi hw
      exact absurd (key _ _ _ _ _ _ _ hw) (by omega)
    · intro T d lo hi a b v g v' g' fl x acc hR hhi hw hv hd hfl
      obtain ⟨fl', rfl⟩ : ∃ g, fl = g + 1 := ⟨fl - 1, by omega⟩
      have hx : x = -1 ∧ gvA X t T acc = acc := by
        unfold RepS at hR
        unfold gvA
        split at hR
        · rename_i k i e a b
          exact absurd rfl (hz k i e a b)
        · exact ⟨hR.1, rfl⟩
        · exact hR.elim
      rw [rl_Model_given_9, hx.1, if_pos (by decide), hx.2]
    · intro T d lo hi a b v g v' g' x acc rec hR hhi hw
      exact absurd (key _ _ _ _ _ _ _ hw) (by omega)
    · intro T d q lo hi a b v g v' g' x acc rec hR hq hhi h50 hw
      exact absurd (key _ _ _ _ _ _ _ hw) (by omega)
end GV
