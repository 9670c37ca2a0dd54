/-! the class's machine: VARS saved; regions and pages -/
section CM2
variable {T T' : gSt} {nf d t a b c k P W n m i q s fl r : Nat} {w x y v : Int32} {f : Nat → Int32}
theorem c_fr1 (h : T.1 102 0 = nI c) (hc : c ≤ 40) (hd : 1 ≤ d) : PP nf d 201 T [1] [] = some (T.1 101 (17 * c + 1), 0, T) := c_frame (k := 1) h hc (by omega) hd
/-- words of the stack into a VAR -/
theorem c_save (h : T.1 100 0 = nI (t + n)) (h102 : T.1 102 0 = nI c) (hc : c ≤ 40) (hb : T.1 101 (17 * c + 1) = nI b) (hx : b + s + n ≤ t) (ht : t + n ≤ 23200) (hn : n < 1000) (hnf : n < nf) (hd : 3 ≤ d) : PP nf d 203 T [4, nI s, nI n] [] = some (0, 0, sI (slQ T (b + s) (fun i => T.1 99 (t + i)) 0 n) 100 0 (nI t)) := by
  obtain ⟨d, rfl⟩ : ∃ g, d = g + 1 := ⟨d - 1, by omega⟩
  rw [e_Machine_doSimple]
  unfold rb_Machine_doSimple
  rw [if_neg (by decide), if_neg (by decide), if_pos rfl, vK]
  have go : ∀ (m fl : Nat), m ≤ n → m < fl → rl_Machine_doSimple_93 (PP nf d) nf fl (sI (slQ T (b + s) (fun i => T.1 99 (t + i)) m n) 100 0 (nI (t + m))) (nI s) (nI m - 1) = some (0, 0, sI (slQ T (b + s) (fun i => T.1 99 (t + i)) 0 n) 100 0 (nI t)) := by
    intro m
    induction m with
    | zero =>
      intro fl h1 h2
      obtain ⟨fl, rfl⟩ : ∃ g, fl = g + 1 := ⟨fl - 1, by omega⟩
      rw [rl_Machine_doSimple_93, if_pos (by decide)]
      rfl
    | succ m ih =>
      intro fl h1 h2
      obtain ⟨fl, rfl⟩ : ∃ g, fl = g + 1 := ⟨fl - 1, by omega⟩
      have eo : ∀ k, k ≠ 100 → k ≠ 99 → (sI (slQ T (b + s) (fun i => T.1 99 (t + i)) (m + 1) n) 100 0 (nI (t + (m + 1)))).1 k = T.1 k := fun k k1 k2 => by
        rw [sI_ne k1, slQ_o k2]
      have eP : ∀ (V : gSt), V.1 100 0 = nI (t + (m + 1)) → ∀ K : Int32 → Int64 → gSt → gR, bi (PP nf d 198 V [] []) K = K (V.1 99 (t + m)) 0 (sI V 100 0 (nI (t + m))) := fun V hV K => by
        rw [c_pop (t := t + m) (by rw [hV, Nat.add_assoc]) (by omega) (by omega), bis]
      rw [rl_Machine_doSimple_93, nI_sub, if_neg (nI_ge0 (by omega)), c_fr1 (c := c) (by rw [eo 102 (by omega) (by omega)]; exact h102) hc (by omega), bis, eo 101 (by omega) (by omega), hb, eP _ sI_v, sI_ne (by omega), slQ_w, if_neg (by omega), show nI b + nI s = nI (b + s) from (Int32.ofNat_add _ _).symm, show nI (b + s) + nI m = nI (b + s + m) from (Int32.ofNat_add _ _).symm, c_setWord (by omega) (by omega), bis, vK]
      have e2 : sI (sI (sI (slQ T (b + s) (fun i => T.1 99 (t + i)) (m + 1) n) 100 0 (nI (t + (m + 1)))) 100 0 (nI (t + m))) 99 (b + s + m) (T.1 99 (t + m)) = sI (slQ T (b + s) (fun i => T.1 99 (t + i)) m n) 100 0 (nI (t + m)) := by
        rw [sI_ow, sI_cc (g := 100) (h := 99) (by omega), slQ_s (T := T) (a := b + s) (f := fun i => T.1 99 (t + i)) (show m < n by omega)]
      rw [e2, show nI m + (-1 : Int32) = nI m - 1 from (Int32.sub_eq_add_neg _ _).symm]
      exact ih fl (by omega) (by omega)
  have := go n nf (Nat.le_refl _) hnf
  have e0 : sI (slQ T (b + s) (fun i => T.1 99 (t + i)) n n) 100 0 (nI (t + n)) = T := by
    rw [slQ_0]
    refine st_ext (fun k j => ?_) rfl
    rw [rdI]
    by_cases e : k = 100 ∧ j = 0
    · rw [if_pos e, e.1, e.2, h]
    · rw [if_neg e]
  rw [e0] at this
  exact this
/-- a region begins -/
def opM (T : gSt) (r : Nat) : gSt := sI (sI (sI (sI (sI (sI T 123 r 0) 124 r 0) 125 r 0) 126 r 0) 127 r 0) 122 0 (nI (r + 1))
theorem c_open (h : T.1 122 0 = nI r) (hr : r < 321) (hd : 1 ≤ d) : PP nf d 228 T [] [] = some (nI r, 0, opM T r) := by
  obtain ⟨d, rfl⟩ : ∃ g, d = g + 1 := ⟨d - 1, by omega⟩
  have z : inb (nI r) 321 := nin hr (by omega)
  have e : ∀ (V : gSt) (g j : Nat) (u : Int32), g ≠ 122 → (sI V g j u).1 122 0 = V.1 122 0 := fun V g j u hg => by rw [sI_ne (fun w => hg w.symm)]
  rw [e_Memory_open]
  unfold rb_Memory_open opM
  simp only [gd, stK, e _ _ _ _ (show 123 ≠ 122 by omega), e _ _ _ _ (show 124 ≠ 122 by omega), e _ _ _ _ (show 125 ≠ 122 by omega), e _ _ _ _ (show 126 ≠ 122 by omega), e _ _ _ _ (show 127 ≠ 122 by omega), h]
  rw [if_pos (show nI r < 321 from (nI_ltI (b := 321) (by omega) (by omega)).mpr hr), if_pos z, nc (by omega), if_pos z, if_pos z, if_pos z, if_pos z, nI_1, sI_v, nI_sub]
/-- regions from r on end: their pages -/
def clO (T : gSt) (P r : Nat) : Nat → Int32 := fun p => if p < P ∧ nI r ≤ T.1 116 p then -1 else T.1 116 p
def clN (T : gSt) (r : Nat) : Nat → Nat
  | 0 => 0
  | p + 1 => clN T r p + (if nI r ≤ T.1 116 p then 1 else 0)
def clM (T : gSt) (P r p : Nat) : gSt := (fun k j => if k = 116 then (if j < p ∧ nI r ≤ T.1 116 j then -1 else T.1 116 j) else if k = 119 ∧ j = 0 then T.1 119 0 - nI (clN T r p) else T.1 k j, T.2)
theorem clM_r {j : Nat} : (clM T P r q).1 k j = if k = 116 then (if j < q ∧ nI r ≤ T.1 116 j then -1 else T.1 116 j) else if k = 119 ∧ j = 0 then T.1 119 0 - nI (clN T r q) else T.1 k j := rfl
theorem clM_o (h1 : k ≠ 116) (h2 : k ≠ 119) : (clM T P r q).1 k = T.1 k := by
  funext j
  rw [clM_r, if_neg h1, if_neg (fun w => h2 w.1)]
theorem c_closeFrom (h : T.1 122 0 = nI m) (hm : m ≤ 321) (hr1 : 1 ≤ r) (hr : r < m) (hp : T.1 117 0 = nI P) (hP : P ≤ 64) (hnf : 64 < nf) (hd : 1 ≤ d) : PP nf d 229 T [nI r] [] = some (0, 0, sI (clM T P r P) 122 0 (nI r)) := by
  obtain ⟨d, rfl⟩ : ∃ g, d = g + 1 := ⟨d - 1, by omega⟩
  rw [e_Memory_closeFrom]
  unfold rb_Memory_closeFrom
  rw [if_neg (fun q => by
    have := (nI_ltI (a := r) (b := 1) (by omega) (by omega)).mp q
    omega), h, if_pos (show nI r < nI m from (nI_ltI (by omega) (by omega)).mpr hr)]
  have go : ∀ (n p fl : Nat), n + p = P → n < fl → rl_Memory_closeFrom_16 (PP nf d) nf fl (clM T P r p) (nI r) (nI p) = some (0, 0, sI (clM T P r P) 122 0 (nI r)) := by
    intro n
    induction n with
    | zero =>
      intro p fl h1 h2
      obtain ⟨fl, rfl⟩ : ∃ g, fl = g + 1 := ⟨fl - 1, by omega⟩
      rw [rl_Memory_closeFrom_16, clM_o (by omega) (by omega), hp, if_pos (show nI P ≤ nI p from (nI_leI (by omega) (by omega)).mpr (by omega)), stK, show p = P by omega]
    | succ n ih =>
      intro p fl h1 h2
      obtain ⟨fl, rfl⟩ : ∃ g, fl = g + 1 := ⟨fl - 1, by omega⟩
      have e116 : (clM T P r p).1 116 p = T.1 116 p := by rw [clM_r, if_pos rfl, if_neg (fun w => Nat.lt_irrefl _ w.1)]
      rw [rl_Memory_closeFrom_16, clM_o (k := 117) (by omega) (by omega), hp, if_neg (fun q => by
        have := (nI_leI (a := P) (b := p) (by omega) (by omega)).mp q
        omega), gd, if_pos (nin (by omega) (by omega)), nc (by omega), e116]
      by_cases c1 : T.1 116 p < nI r
      · rw [if_pos c1, vK, nI_1]
        have eS : clM T P r (p + 1) = clM T P r p := by
          have nl : ¬ nI r ≤ T.1 116 p := Int32.not_le.mpr c1
          refine st_ext (fun k j => ?_) rfl
          rw [clM_r, clM_r, clN, if_neg nl, Nat.add_zero]
          by_cases k1 : k = 116
          · rw [if_pos k1, if_pos k1]
            by_cases z : j < p ∧ nI r ≤ T.1 116 j
            · rw [if_pos z, if_pos ⟨by omega, z.2⟩]
            · rw [if_neg z, if_neg (fun w => by
                by_cases e : j = p
                · rw [e] at w; exact nl w.2
                · exact z ⟨by omega, w.2⟩)]
          · rw [if_neg k1, if_neg k1]
            rfl
        rw [← eS]
        exact ih (p + 1) fl (by omega) (by omega)
      · have le : nI r ≤ T.1 116 p := Int32.not_lt.mp c1
        rw [if_neg c1, gd, if_pos (nin (by omega) (by omega)), stK, stK, vK, nI_1]
        have eS : clM T P r (p + 1) = sI (sI (clM T P r p) 116 p (-1)) 119 0 ((sI (clM T P r p) 116 p (-1)).1 119 0 - 1) := by
          have eV : (sI (clM T P r p) 116 p (-1)).1 119 0 = T.1 119 0 - nI (clN T r p) := by
            rw [sI_ne (by omega), clM_r, if_neg (by omega), if_pos ⟨rfl, rfl⟩]
          rw [eV]
          refine st_ext (fun k j => ?_) rfl
          by_cases k1 : k = 116
          · subst k1
            rw [clM_r, if_pos rfl, sI_ne (by omega), rdI, clM_r, if_pos rfl]
            by_cases e : j = p
            · rw [if_pos ⟨by omega, by rw [e]; exact le⟩, if_pos ⟨rfl, e⟩]
            · rw [if_neg (fun w : 116 = 116 ∧ j = p => e w.2)]
              by_cases z : j < p ∧ nI r ≤ T.1 116 j
              · rw [if_pos z, if_pos ⟨by omega, z.2⟩]
              · rw [if_neg z, if_neg (fun w => z ⟨by omega, w.2⟩)]
          · by_cases k2 : k = 119 ∧ j = 0
            · rw [k2.1, k2.2, sI_v, clM_r, if_neg (by omega), if_pos ⟨rfl, rfl⟩, clN, if_pos le, show nI (clN T r p + 1) = nI (clN T r p) + 1 from Int32.ofNat_add _ 1]
              rw [Int32.sub_eq_add_neg, Int32.sub_eq_add_neg, Int32.sub_eq_add_neg, Int32.neg_add, Int32.sub_eq_add_neg, Int32.add_assoc]
            · rw [clM_r, if_neg k1, if_neg k2, rdI, if_neg k2, sI_ne k1, clM_r, if_neg k1, if_neg k2]
        rw [← eS]
        exact ih (p + 1) fl (by omega) (by omega)
  have := go P 0 nf (by omega) (by omega)
  have e0 : clM T P r 0 = T := by
    refine st_ext (fun k j => ?_) rfl
    rw [clM_r]
    by_cases k1 : k = 116
    · rw [if_pos k1, if_neg (fun w => absurd w.1 (Nat.not_lt_zero _)), k1]
    · rw [if_neg k1]
      by_cases k2 : k = 119 ∧ j = 0
      · rw [if_pos k2, k2.1, k2.2]
        show T.1 119 0 - 0 = _
        exact Int32.sub_zero _
      · rw [if_neg k2]
  rw [e0] at this
  exact this
theorem c_closeNo (h : T.1 122 0 = nI m) (hm : m ≤ 321) (hr : r = 0 ∨ m ≤ r) (hr2 : r < 100000) (hd : 1 ≤ d) : PP nf d 229 T [nI r] [] = some (0, 0, T) := by
  obtain ⟨d, rfl⟩ : ∃ g, d = g + 1 := ⟨d - 1, by omega⟩
  rw [e_Memory_closeFrom]
  unfold rb_Memory_closeFrom
  by_cases c : r = 0
  · rw [c, if_pos (by decide)]
  · rw [if_neg (fun q => by
      have := (nI_ltI (a := r) (b := 1) (by omega) (by omega)).mp q
      omega), h, if_neg (fun q => by
      have := (nI_ltI (a := r) (b := m) (by omega) (by omega)).mp q
      omega)]
end CM2
