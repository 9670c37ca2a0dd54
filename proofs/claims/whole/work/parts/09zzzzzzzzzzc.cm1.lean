/-! the class's machine: words on the stack, in the memory -/
/-- n words f on the stack from t on -/
def stW (T : gSt) (t : Nat) (f : Nat → Int32) (n : Nat) : gSt := (fun k j => if k = 99 then (if t ≤ j ∧ j < t + n then f (j - t) else T.1 99 j) else if k = 100 ∧ j = 0 then nI (t + n) else T.1 k j, T.2)
/-- words i to n of f in the memory from a on -/
def mmW (T : gSt) (a : Nat) (f : Nat → Int32) (i n : Nat) : gSt := (fun k j => if k = 114 then (if a + i ≤ j ∧ j < a + n then f (j - a) else T.1 114 j) else if k = 115 then (if a + i ≤ j ∧ j < a + n then 1 else T.1 115 j) else T.1 k j, T.2)
/-- words i to n of f on the stack from a on -/
def slQ (T : gSt) (a : Nat) (f : Nat → Int32) (i n : Nat) : gSt := (fun k j => if k = 99 then (if a + i ≤ j ∧ j < a + n then f (j - a) else T.1 99 j) else T.1 k j, T.2)
section CM1
variable {T T' : gSt} {nf d t a b c k P W n m i q s fl : Nat} {w x y v : Int32} {f : Nat → Int32}
theorem st_ext {T T' : gSt} (h1 : ∀ k j, T.1 k j = T'.1 k j) (h2 : T.2 = T'.2) : T = T' := Prod.ext (funext fun k => funext fun j => h1 k j) h2
theorem stW_r {j : Nat} : (stW T t f n).1 k j = if k = 99 then (if t ≤ j ∧ j < t + n then f (j - t) else T.1 99 j) else if k = 100 ∧ j = 0 then nI (t + n) else T.1 k j := rfl
theorem mmW_r {j : Nat} : (mmW T a f i n).1 k j = if k = 114 then (if a + i ≤ j ∧ j < a + n then f (j - a) else T.1 114 j) else if k = 115 then (if a + i ≤ j ∧ j < a + n then 1 else T.1 115 j) else T.1 k j := rfl
theorem slQ_r {j : Nat} : (slQ T a f i n).1 k j = if k = 99 then (if a + i ≤ j ∧ j < a + n then f (j - a) else T.1 99 j) else T.1 k j := rfl
theorem stW_o (hk : k ≠ 99) (hk2 : k ≠ 100) : (stW T t f n).1 k = T.1 k := by
  funext j
  rw [stW_r, if_neg hk, if_neg (fun w => hk2 w.1)]
theorem stW_t : (stW T t f n).1 100 0 = nI (t + n) := by
  rw [stW_r, if_neg (by omega), if_pos ⟨rfl, rfl⟩]
theorem stW_w : (stW T t f n).1 99 q = if t ≤ q ∧ q < t + n then f (q - t) else T.1 99 q := by
  rw [stW_r, if_pos rfl]
theorem stW_0 (h : T.1 100 0 = nI t) : stW T t f 0 = T := by
  refine st_ext (fun k j => ?_) rfl
  by_cases c1 : k = 99
  · subst c1
    rw [stW_w, if_neg (by omega)]
  · by_cases c2 : k = 100
    · subst c2
      by_cases c3 : j = 0
      · subst c3; rw [stW_t, h]; rfl
      · rw [stW_r, if_neg (by omega), if_neg (fun w => c3 w.2)]
    · rw [stW_o c1 c2]
theorem stW_s : psT (stW T t f n) (t + n) (f n) = stW T t f (n + 1) := by
  refine st_ext (fun k j => ?_) rfl
  unfold psT
  by_cases c1 : k = 99
  · subst c1
    rw [sI_ne (by omega), rdI, stW_w, stW_w]
    by_cases e : j = t + n
    · rw [if_pos ⟨rfl, e⟩, if_pos (by omega), e, show t + n - t = n by omega]
    · rw [if_neg (fun w => e w.2)]
      by_cases z : t ≤ j ∧ j < t + n
      · rw [if_pos z, if_pos (by omega)]
      · rw [if_neg z, if_neg (by omega)]
  · by_cases c2 : k = 100
    · subst c2
      rw [rdI]
      by_cases c3 : j = 0
      · subst c3; rw [if_pos ⟨rfl, rfl⟩, stW_t, Nat.add_assoc]
      · rw [if_neg (fun w => c3 w.2), sI_ne (by omega)]
        rw [stW_r, stW_r, if_neg (by omega), if_neg (fun w => c3 w.2), if_neg (by omega), if_neg (fun w => c3 w.2)]
    · rw [sI_ne c2, sI_ne c1, stW_o c1 c2, stW_o c1 c2]
theorem mmW_o (hk : k ≠ 114) (hk2 : k ≠ 115) : (mmW T a f i n).1 k = T.1 k := by
  funext j
  rw [mmW_r, if_neg hk, if_neg hk2]
theorem mmW_w : (mmW T a f i n).1 114 q = if a + i ≤ q ∧ q < a + n then f (q - a) else T.1 114 q := by
  rw [mmW_r, if_pos rfl]
theorem mmW_g : (mmW T a f i n).1 115 q = if a + i ≤ q ∧ q < a + n then 1 else T.1 115 q := by
  rw [mmW_r, if_neg (by omega), if_pos rfl]
theorem sI_cc {g h p r : Nat} {u v : Int32} (hh : g ≠ h) : sI (sI T g p u) h r v = sI (sI T h r v) g p u := by
  refine st_ext (fun k j => ?_) rfl
  rw [rdI, rdI, rdI, rdI]
  by_cases c1 : k = h ∧ j = r
  · rw [if_pos c1, if_neg (fun w => hh (w.1.symm.trans c1.1)), if_pos c1]
  · rw [if_neg c1, if_neg c1]
theorem sI_ow {g p : Nat} {u v : Int32} : sI (sI T g p u) g p v = sI T g p v := by
  refine st_ext (fun k j => ?_) rfl
  rw [rdI, rdI, rdI]
  by_cases c1 : k = g ∧ j = p
  · rw [if_pos c1, if_pos c1]
  · rw [if_neg c1, if_neg c1, if_neg c1]
theorem pu_100 : puT (sI T 100 0 v) a w = sI (puT T a w) 100 0 v := by
  unfold puT
  rw [sI_cc (g := 100) (h := 114) (by omega), sI_cc (g := 100) (h := 115) (by omega)]
theorem mmW_0 : mmW T a f n n = T := by
  refine st_ext (fun k j => ?_) rfl
  by_cases c1 : k = 114
  · subst c1; rw [mmW_w, if_neg (by omega)]
  · by_cases c2 : k = 115
    · subst c2; rw [mmW_g, if_neg (by omega)]
    · rw [mmW_o c1 c2]
theorem mmW_s (hi : i < n) : puT (mmW T a f (i + 1) n) (a + i) (f i) = mmW T a f i n := by
  refine st_ext (fun k j => ?_) rfl
  unfold puT
  by_cases c1 : k = 114
  · subst c1
    rw [sI_ne (by omega), rdI, mmW_w, mmW_w]
    by_cases e : j = a + i
    · rw [if_pos ⟨rfl, e⟩, if_pos (by omega), e, show a + i - a = i by omega]
    · rw [if_neg (fun w => e w.2)]
      by_cases z : a + (i + 1) ≤ j ∧ j < a + n
      · rw [if_pos z, if_pos (by omega)]
      · rw [if_neg z, if_neg (by omega)]
  · by_cases c2 : k = 115
    · subst c2
      rw [rdI, mmW_g]
      by_cases e : j = a + i
      · rw [if_pos ⟨rfl, e⟩, if_pos (by omega)]
      · rw [if_neg (fun w => e w.2), sI_ne (by omega), mmW_g]
        by_cases z : a + (i + 1) ≤ j ∧ j < a + n
        · rw [if_pos z, if_pos (by omega)]
        · rw [if_neg z, if_neg (by omega)]
    · rw [sI_ne c2, sI_ne c1, mmW_o c1 c2, mmW_o c1 c2]
theorem slQ_o (hk : k ≠ 99) : (slQ T a f i n).1 k = T.1 k := by
  funext j
  rw [slQ_r, if_neg hk]
theorem slQ_w : (slQ T a f i n).1 99 q = if a + i ≤ q ∧ q < a + n then f (q - a) else T.1 99 q := by
  rw [slQ_r, if_pos rfl]
theorem slQ_0 : slQ T a f n n = T := by
  refine st_ext (fun k j => ?_) rfl
  by_cases c1 : k = 99
  · subst c1; rw [slQ_w, if_neg (by omega)]
  · rw [slQ_o c1]
theorem slQ_s (hi : i < n) : sI (slQ T a f (i + 1) n) 99 (a + i) (f i) = slQ T a f i n := by
  refine st_ext (fun k j => ?_) rfl
  by_cases c1 : k = 99
  · subst c1
    rw [rdI, slQ_w, slQ_w]
    by_cases e : j = a + i
    · rw [if_pos ⟨rfl, e⟩, if_pos (by omega), e, show a + i - a = i by omega]
    · rw [if_neg (fun w => e w.2)]
      by_cases z : a + (i + 1) ≤ j ∧ j < a + n
      · rw [if_pos z, if_pos (by omega)]
      · rw [if_neg z, if_neg (by omega)]
  · rw [sI_ne c1, slQ_o c1, slQ_o c1]
theorem Pgs.eq (h : Pgs T P W) (h1 : T'.1 117 = T.1 117) (h2 : T'.1 118 = T.1 118) : Pgs T' P W := by
  unfold Pgs
  rw [h1, h2]
  exact h
theorem Own.eq (h : Own T P W a) (h1 : T'.1 116 = T.1 116) : Own T' P W a := by
  unfold Own
  rw [h1]
  exact h
/-- fetch: words of the memory onto the stack -/
theorem c_fetch (h : T.1 100 0 = nI t) (ht : t + n ≤ 23200) (hn : n < 1000) (hnf : n < nf) (hp : Pgs T P W) (ho : ∀ i, i < n → Own T P W (a + i) ∧ ¬ T.1 115 (a + i) = 0) (hd : 4 ≤ d) : PP nf d 208 T [nI a, nI n] [] = some (0, 0, stW T t (fun i => T.1 114 (a + i)) n) := by
  obtain ⟨d, rfl⟩ : ∃ g, d = g + 1 := ⟨d - 1, by omega⟩
  rw [e_Machine_fetch]
  unfold rb_Machine_fetch
  have go : ∀ (m i fl : Nat), m + i = n → m < fl → rl_Machine_fetch_2 (PP nf d) nf fl (stW T t (fun i => T.1 114 (a + i)) i) (nI a) (nI n) (nI i) = some (0, 0, stW T t (fun i => T.1 114 (a + i)) n) := by
    intro m
    induction m with
    | zero =>
      intro i fl h1 h2
      obtain ⟨fl, rfl⟩ : ∃ g, fl = g + 1 := ⟨fl - 1, by omega⟩
      rw [rl_Machine_fetch_2, if_pos (show nI n ≤ nI i from (nI_leI (by omega) (by omega)).mpr (by omega)), show i = n by omega]
    | succ m ih =>
      intro i fl h1 h2
      obtain ⟨fl, rfl⟩ : ∃ g, fl = g + 1 := ⟨fl - 1, by omega⟩
      obtain ⟨o1, o2⟩ := ho i (by omega)
      have e1 : ∀ k, k ≠ 99 → k ≠ 100 → (stW T t (fun i => T.1 114 (a + i)) i).1 k = T.1 k := fun k k1 k2 => stW_o k1 k2
      rw [rl_Machine_fetch_2, if_neg (fun q => by
        have := (nI_leI (a := n) (b := i) (by omega) (by omega)).mp q
        omega), show nI a + nI i = nI (a + i) from (Int32.ofNat_add _ _).symm, c_get (hp.eq (e1 117 (by omega) (by omega)) (e1 118 (by omega) (by omega))) (o1.eq (e1 116 (by omega) (by omega))) (by rw [e1 115 (by omega) (by omega)]; exact o2) (by omega), bis, e1 114 (by omega) (by omega), c_push stW_t (by omega) (by omega), bis, vK, nI_1]
      have := ih (i + 1) fl (by omega) (by omega)
      rw [← stW_s] at this
      exact this
  have := go n 0 nf (by omega) hnf
  rw [stW_0 h] at this
  exact this
/-- a VAR's words onto the stack -/
theorem c_load (h : T.1 100 0 = nI t) (h102 : T.1 102 0 = nI c) (hc : c ≤ 40) (hb : T.1 101 (17 * c + 1) = nI b) (hx : b + s + n ≤ t) (ht : t + n ≤ 23200) (hn : n < 1000) (hnf : n < nf) (hd : 3 ≤ d) : PP nf d 203 T [3, nI s, nI n] [] = some (0, 0, stW T t (fun i => T.1 99 (b + s + i)) n) := by
  obtain ⟨d, rfl⟩ : ∃ g, d = g + 1 := ⟨d - 1, by omega⟩
  rw [e_Machine_doSimple]
  unfold rb_Machine_doSimple
  rw [if_neg (by decide), if_pos rfl]
  have go : ∀ (m i fl : Nat), m + i = n → m < fl → rl_Machine_doSimple_55 (PP nf d) nf fl (stW T t (fun i => T.1 99 (b + s + i)) i) (nI s) (nI n) (nI i) = some (0, 0, stW T t (fun i => T.1 99 (b + s + i)) n) := by
    intro m
    induction m with
    | zero =>
      intro i fl h1 h2
      obtain ⟨fl, rfl⟩ : ∃ g, fl = g + 1 := ⟨fl - 1, by omega⟩
      rw [rl_Machine_doSimple_55, if_pos (show nI n ≤ nI i from (nI_leI (by omega) (by omega)).mpr (by omega)), show i = n by omega]
    | succ m ih =>
      intro i fl h1 h2
      obtain ⟨fl, rfl⟩ : ∃ g, fl = g + 1 := ⟨fl - 1, by omega⟩
      have e1 : ∀ k, k ≠ 99 → k ≠ 100 → (stW T t (fun i => T.1 99 (b + s + i)) i).1 k = T.1 k := fun k k1 k2 => stW_o k1 k2
      rw [rl_Machine_doSimple_55, if_neg (fun q => by
        have := (nI_leI (a := n) (b := i) (by omega) (by omega)).mp q
        omega), show (1 : Int32) = nI 1 from rfl, c_frame (c := c) (by rw [e1 102 (by omega) (by omega)]; exact h102) hc (by omega) (by omega), bis, e1 101 (by omega) (by omega), hb, show nI b + nI s = nI (b + s) from (Int32.ofNat_add _ _).symm, show nI (b + s) + nI i = nI (b + s + i) from (Int32.ofNat_add _ _).symm, c_wordAt (by omega) (by omega), bis, stW_w, if_neg (by omega), c_push stW_t (by omega) (by omega), bis, vK, show nI i + nI 1 = nI (i + 1) from (Int32.ofNat_add _ _).symm]
      have := ih (i + 1) fl (by omega) (by omega)
      rw [← stW_s] at this
      exact this
  have := go n 0 nf (by omega) hnf
  rw [stW_0 h] at this
  exact this
theorem nI_sm1 (h : 1 ≤ n) : nI n - 1 = nI (n - 1) := by
  obtain ⟨m, rfl⟩ : ∃ m, n = m + 1 := ⟨n - 1, by omega⟩
  exact nI_sub
/-- words of the stack into the memory -/
theorem c_store (h : T.1 100 0 = nI (t + n)) (ht : t + n ≤ 23200) (hn : n < 1000) (hnf : n + 1 < nf) (hp : Pgs T P W) (ho : ∀ i, i < n → Own T P W (a + i)) (hd : 4 ≤ d) : PP nf d 209 T [nI a, nI n] [] = some (0, 0, sI (mmW T a (fun i => T.1 99 (t + i)) 0 n) 100 0 (nI t)) := by
  obtain ⟨d, rfl⟩ : ∃ g, d = g + 1 := ⟨d - 1, by omega⟩
  rw [e_Machine_store]
  unfold rb_Machine_store
  rw [vK]
  have go : ∀ (m fl : Nat), m ≤ n → m < fl → rl_Machine_store_4 (PP nf d) nf fl (sI (mmW T a (fun i => T.1 99 (t + i)) m n) 100 0 (nI (t + m))) (nI a) (nI m - 1) = some (0, 0, sI (mmW T a (fun i => T.1 99 (t + i)) 0 n) 100 0 (nI t)) := by
    intro m
    induction m with
    | zero =>
      intro fl h1 h2
      obtain ⟨fl, rfl⟩ : ∃ g, fl = g + 1 := ⟨fl - 1, by omega⟩
      rw [rl_Machine_store_4, if_pos (by decide)]
      rfl
    | succ m ih =>
      intro fl h1 h2
      obtain ⟨fl, rfl⟩ : ∃ g, fl = g + 1 := ⟨fl - 1, by omega⟩
      have eP : ∀ (V : gSt), V.1 100 0 = nI (t + (m + 1)) → ∀ K : Int32 → Int64 → gSt → gR, bi (PP nf d 198 V [] []) K = K (V.1 99 (t + m)) 0 (sI V 100 0 (nI (t + m))) := fun V hV K => by
        rw [c_pop (t := t + m) (by rw [hV, Nat.add_assoc]) (by omega) (by omega), bis]
      rw [rl_Machine_store_4, nI_sub, if_neg (nI_ge0 (by omega)), eP _ sI_v, sI_ne (by omega), mmW_o (by omega) (by omega), show nI a + nI m = nI (a + m) from (Int32.ofNat_add _ _).symm]
      have eo : ∀ k, k ≠ 100 → k ≠ 114 → k ≠ 115 → (sI (sI (mmW T a (fun i => T.1 99 (t + i)) (m + 1) n) 100 0 (nI (t + (m + 1)))) 100 0 (nI (t + m))).1 k = T.1 k := fun k k1 k2 k3 => by
        rw [sI_ne k1, sI_ne k1, mmW_o k2 k3]
      rw [c_put (hp.eq (eo 117 (by omega) (by omega) (by omega)) (eo 118 (by omega) (by omega) (by omega))) ((ho m (by omega)).eq (eo 116 (by omega) (by omega) (by omega))) (by omega), bis, vK]
      have e2 : puT (sI (sI (mmW T a (fun i => T.1 99 (t + i)) (m + 1) n) 100 0 (nI (t + (m + 1)))) 100 0 (nI (t + m))) (a + m) (T.1 99 (t + m)) = sI (mmW T a (fun i => T.1 99 (t + i)) m n) 100 0 (nI (t + m)) := by
        rw [sI_ow, pu_100, mmW_s (T := T) (a := a) (f := fun i => T.1 99 (t + i)) (show m < n by omega)]
      rw [e2, show nI m + (-1 : Int32) = nI m - 1 from (Int32.sub_eq_add_neg _ _).symm]
      exact ih fl (by omega) (by omega)
  have := go n nf (Nat.le_refl _) (by omega)
  have e0 : sI (mmW T a (fun i => T.1 99 (t + i)) n n) 100 0 (nI (t + n)) = T := by
    rw [mmW_0]
    refine st_ext (fun k j => ?_) rfl
    rw [rdI]
    by_cases e : k = 100 ∧ j = 0
    · rw [if_pos e, e.1, e.2, h]
    · rw [if_neg e]
  rw [e0] at this
  exact this
end CM1
