/-! the class's scope: variables, REGIONS, ways that meet; pointers and things -/
/-- what keep leaves of a state; k: the key, s: its slot -/
def KpQ (T T' : gSt) (s k : Nat) : Prop := s < 16384 ∧ SW T' s = kyN T' k ∧ EW T' = EW T ∧ TyI T' ∧ T'.1 = T.1 ∧ (∀ g j, ¬ (g = 62 ∧ j = s) → T'.2 g j = T.2 g j) ∧ (∀ q, q < 16384 → lvK T q → T'.2 62 q = T.2 62 q) ∧ lvC T' 16384 ≤ lvC T 16384 + 1 ∧ ((∃ q, q < 16384 ∧ SW T q = kyN T k) → T' = T)
/-- whether every bit from a to b is alike -/
def samB (w u : Int64) (a b : Nat) : Prop := ∀ n, a ≤ n → n < b → fb w n = fb u n
section CSV
variable {nf d : Nat} {T T' T3 : gSt} {X : Lx} {i j k p q m n e c z lo hi t r s v b : Nat} {x y : Int32} {w u nm : Int64} {bo : Bool}
theorem c_ptr (hnf : 16385 ≤ nf) (hI : TyI T) (hf : lvC T 16384 < 16384) (hk : k < 8) (hr : r < 16) (hb : b < 131000) (hd : 2 ≤ d) : ∃ s T', PP nf d 88 T [nI k, nI r, nI b] [] = some (nI (s + 3), 0, T') ∧ KpQ T T' s (k + 8 * r + 128 * b) := by
  obtain ⟨d, rfl⟩ : ∃ g, d = g + 1 := ⟨d - 1, by omega⟩
  have hy := ky_ptr (k := k) (r := r) (b := b) hk hr (by omega)
  obtain ⟨s, T', h1, h2⟩ := c_kp (d := d) hnf hI hy (by have : KM = 16777216 := rfl; omega) hf (by omega)
  refine ⟨s, T', ?_, h2⟩
  rw [e_Types_pointer]
  unfold rb_Types_pointer
  rw [h1, bis]
theorem c_thg (hnf : 16385 ≤ nf) (hI : TyI T) (hf : lvC T 16384 < 16384) (ht : t < 32) (hr : r < 4096) (hd : 2 ≤ d) : ∃ s T', PP nf d 89 T [nI t, nI r] [] = some (nI (s + 3), 0, T') ∧ KpQ T T' s (6 + 8 * t + 256 * r) := by
  obtain ⟨d, rfl⟩ : ∃ g, d = g + 1 := ⟨d - 1, by omega⟩
  have hy := ky_thg (t := t) (r := r) ht hr
  obtain ⟨s, T', h1, h2⟩ := c_kp (d := d) hnf hI hy (by have : KM = 16777216 := rfl; omega) hf (by omega)
  refine ⟨s, T', ?_, h2⟩
  rw [e_Types_thing]
  unfold rb_Types_thing
  rw [h1, bis]
/-- the key of a type that was kept -/
theorem KpQ.key (h : KpQ T T' s k) (hk : k < KM) : kO T' (s + 3) = k ∧ lvK T' s := by
  obtain ⟨h1, h2, _⟩ := h
  unfold kO
  rw [if_neg (by omega), show s + 3 - 3 = s by omega]
  refine ⟨by rw [h2]; exact (kyN_lv hk).2, ?_⟩
  unfold lvK
  rw [h2]
  exact (kyN_lv hk).1
/-- types that were there have their keys still -/
theorem KpQ.old (h : KpQ T T' s k) (hq : q < 16384) (hl : lvK T q) : SW T' q = SW T q ∧ lvK T' q ∧ kO T' (q + 3) = kO T (q + 3) := by
  have e : SW T' q = SW T q := by unfold SW; rw [h.2.2.2.2.2.2.1 q hq hl]
  refine ⟨e, by unfold lvK; rw [e, h.2.2.1]; exact hl, ?_⟩
  unfold kO
  rw [if_neg (by omega), if_neg (by omega), show q + 3 - 3 = q by omega, e]
theorem c_fgv (hn : T.1 68 0 = nI n) (hk : k < 100000) (hn2 : n < 100000) (hd : 1 ≤ d) : PP nf d 112 T [nI k] [] = some (0, 0, sI T 68 0 (nI (min n k))) := by
  obtain ⟨d, rfl⟩ : ∃ g, d = g + 1 := ⟨d - 1, by omega⟩
  rw [e_Scope_forgetVars]
  unfold rb_Scope_forgetVars
  rw [hn, stK]
  by_cases c : k < n
  · rw [if_pos (show nI k < nI n from (nI_ltI (by omega) (by omega)).mpr c), show min n k = k by omega]
  · rw [if_neg (show ¬ nI k < nI n from fun w => c ((nI_ltI (by omega) (by omega)).mp w)), show min n k = n by omega]
/-- a variable more -/
theorem c_addVar (hn : T.1 68 0 = nI n) (hn2 : n < 20) (hy : c < 200000) (hd : 4 ≤ d) : PP nf d 114 T [nI c] [nm] = some (nI n, 0, sI (sJ (sI (sI (sJ T 69 n nm) 70 n (nI c)) 71 (n + 1) (T.1 71 n + nI (wdC T c))) 77 0 (sbW (sbW (flw T) (20 + n) false) n false)) 68 0 (nI (n + 1))) := by
  obtain ⟨d, rfl⟩ : ∃ g, d = g + 1 := ⟨d - 1, by omega⟩
  have cn : (nI n).toNatClampNeg = n := nc (by omega)
  have cn1 : (nI (n + 1)).toNatClampNeg = n + 1 := nc (by omega)
  rw [e_Scope_addVar]
  unfold rb_Scope_addVar
  rw [hn, if_pos (show nI n < 20 from (nI_ltI (a := n) (b := 20) (by omega) (by omega)).mpr hn2)]
  have a1 : (sJ T 69 n nm).1 68 0 = nI n := hn
  have a2 : (sI (sJ T 69 n nm) 70 n (nI c)).1 68 0 = nI n := by rw [sI_ne (by omega)]; exact hn
  have wd : ∀ S : gSt, S.2 62 = T.2 62 → wdC S c = wdC T c := fun S hS => by unfold wdC kdC kO SW; rw [hS]
  simp only [gd, stK, cn, a1, a2, if_pos (nin (show n < 20 by omega) (by omega) : inb (nI n) 20), if_pos (nin (show n < 21 by omega) (by omega) : inb (nI n) 21), nI_1, if_pos (nin (show n + 1 < 21 by omega) (by omega) : inb (nI (n + 1)) 21), cn1]
  rw [c_wordsOf hy (by omega), bis]
  have e71 : (sI (sJ T 69 n nm) 70 n (nI c)).1 71 n = T.1 71 n := by rw [sI_ne (by omega)]; rfl
  rw [e71, wd (sI (sJ T 69 n nm) 70 n (nI c)) (by
    show (sJ T 69 n nm).2 62 = T.2 62
    exact sJ_ne (by omega))]
  have a3 : (sI (sI (sJ T 69 n nm) 70 n (nI c)) 71 (n + 1) (T.1 71 n + nI (wdC T c))).1 68 0 = nI n := by rw [sI_ne (by omega)]; exact a2
  rw [a3, c_forget1 hn2 (by omega), bis]
  have f3 : flw (sI (sI (sJ T 69 n nm) 70 n (nI c)) 71 (n + 1) (T.1 71 n + nI (wdC T c))) = flw T := by
    show (sJ T 69 n nm).2 77 0 = T.2 77 0
    rw [sJ_ne (by omega)]
  rw [f3]
  generalize hS : sI (sI (sJ T 69 n nm) 70 n (nI c)) 71 (n + 1) (T.1 71 n + nI (wdC T c)) = S at *
  have a4 : (sJ S 77 0 (sbW (flw T) (20 + n) false)).1 68 0 = nI n := a3
  have a5 : ∀ u, (sJ (sJ S 77 0 (sbW (flw T) (20 + n) false)) 77 0 u).1 68 0 = nI n := fun u => a3
  rw [a4, a5, nI_1]
  have e5 : (sJ S 77 0 (sbW (flw T) (20 + n) false)).2 77 0 &&& (((1 : Int64) <<< ((nI n : Int32).toInt64 &&& 63)) ^^^ (-1 : Int64)) = sbW (sbW (flw T) (20 + n) false) n false := by
    rw [show (sJ S 77 0 (sbW (flw T) (20 + n) false)).2 77 0 = sbW (flw T) (20 + n) false from flw_w]
    generalize sbW (flw T) (20 + n) false = w
    unfold sbW sh1
    rw [if_neg (by decide)]
  rw [e5, sJ_sJ, sI_v]
  have e6 : nI (n + 1) - 1 = nI n := nI_sub
  rw [e6]
/-- a REGION is opened -/
theorem c_openRegion (hn : T.1 72 0 = nI n) (hn2 : n < 12) (hd : 2 ≤ d) : PP nf d 104 T [] [nm] = some (nI n, 0, sJ (sI (sI (sJ T 73 n nm) 74 n (T.1 75 0)) 72 0 (nI (n + 1))) 77 0 (sbW (flw T) (40 + n) true)) := by
  obtain ⟨d, rfl⟩ : ∃ g, d = g + 1 := ⟨d - 1, by omega⟩
  have cn : (nI n).toNatClampNeg = n := nc (by omega)
  have zn : inb (nI n) 12 := nin hn2 (by omega)
  rw [e_Scope_openRegion]
  unfold rb_Scope_openRegion
  have a1 : (sI (sJ T 73 n nm) 74 n (T.1 75 0)).1 72 0 = nI n := by rw [sI_ne (by omega)]; exact hn
  rw [hn, if_pos (show nI n < 12 from (nI_ltI (a := n) (b := 12) (by omega) (by omega)).mpr hn2)]
  simp only [gd, stK, vK, cn, if_pos zn]
  rw [show (sJ T 73 n nm).1 75 0 = T.1 75 0 from rfl, a1, nI_1, c_setLive (x := 1) (bo := true) hn2 rfl (by omega), bis]
  have f3 : flw (sI (sI (sJ T 73 n nm) 74 n (T.1 75 0)) 72 0 (nI (n + 1))) = flw T := by
    show (sJ T 73 n nm).2 77 0 = T.2 77 0
    rw [sJ_ne (by omega)]
  rw [f3]
theorem c_leaveRegion (hr : 4 ≤ r) (hr2 : r < 12) (hd : 2 ≤ d) : PP nf d 105 T [nI r] [] = some (0, 0, sI (sJ T 77 0 (sbW (flw T) (40 + r) false)) 72 0 (nI r)) := by
  obtain ⟨d, rfl⟩ : ∃ g, d = g + 1 := ⟨d - 1, by omega⟩
  rw [e_Scope_leaveRegion]
  unfold rb_Scope_leaveRegion
  rw [if_neg (fun w => by
    have := (nI_ltI (a := r) (b := 4) (by omega) (by omega)).mp w
    omega), c_setLive (x := 0) (bo := false) hr2 rfl (by omega), bis, stK]
/-- whether r outlives s; ab: the told pairs of the fun -/
def ouC (T : gSt) (r s : Nat) : Prop := r = s ∨ r = 0 ∨ (if 4 ≤ s then fb (flw T) (40 + r) = true ∧ (r < 4 ∨ r < s) else r < 4 ∧ s ≠ 0 ∧ ((T.1 40 (T.1 67 0).toNatClampNeg >>> (nI ((r - 1) * 3 + s - 1) &&& 31)) &&& 1) ≠ 0)
theorem c_outlives (hr : r < 12) (hs : s < 12) (ht : T.1 67 0 = nI t) (ht2 : t < 24) (hd : 2 ≤ d) : ∃ o : Bool, PP nf d 109 T [nI r, nI s] [] = some ((if o = true then 1 else 0), 0, T) ∧ (o = true ↔ ouC T r s) := by
  obtain ⟨d, rfl⟩ : ∃ g, d = g + 1 := ⟨d - 1, by omega⟩
  rw [e_Scope_outlives]
  unfold rb_Scope_outlives ouC
  have q1 : (nI r = nI s) = (r = s) := ci_eq (by omega) (by omega)
  have q2 : (nI r = 0) = (r = 0) := ci_eq (j := 0) (by omega) (by omega)
  have q3 : (nI s = 0) = (s = 0) := ci_eq (j := 0) (by omega) (by omega)
  have l1 : (nI s < 4) = (s < 4) := propext (nI_ltI (a := s) (b := 4) (by omega) (by omega))
  have l2 : ((4 : Int32) ≤ nI r) = (4 ≤ r) := propext (nI_leI (a := 4) (b := r) (by omega) (by omega))
  have l3 : (nI r < 4) = (r < 4) := propext (nI_ltI (a := r) (b := 4) (by omega) (by omega))
  have l4 : (nI s ≤ nI r) = (s ≤ r) := propext (nI_leI (by omega) (by omega))
  simp only [q1, q2, q3, l1, l2, l3, l4]
  by_cases c1 : r = s
  · rw [if_pos c1]
    exact ⟨true, rfl, fun _ => Or.inl c1, fun _ => rfl⟩
  rw [if_neg c1]
  by_cases c2 : r = 0
  · rw [if_pos c2]
    exact ⟨true, rfl, fun _ => Or.inr (Or.inl c2), fun _ => rfl⟩
  rw [if_neg c2]
  by_cases c3 : s < 4
  · rw [if_pos c3, if_neg (show ¬ 4 ≤ s by omega)]
    by_cases c4 : 4 ≤ r
    · rw [if_pos c4]
      exact ⟨false, rfl, fun w => absurd w (by decide), fun w => by omega⟩
    rw [if_neg c4]
    by_cases c5 : s = 0
    · rw [if_pos c5]
      exact ⟨false, rfl, fun w => absurd w (by decide), fun w => by
        rcases w with w | w | w
        · exact absurd w c1
        · exact absurd w c2
        · exact absurd c5 w.2.1⟩
    rw [if_neg c5, gd, if_pos (by rw [ht]; exact nin ht2 (by omega))]
    obtain ⟨d1, hd1⟩ : ∃ g, d = g + 1 := ⟨d - 1, by omega⟩
    have ab : PP nf d 110 T [nI r, nI s] [] = some (nI ((r - 1) * 3 + s - 1), 0, T) := by
      rw [hd1, e_Scope_aboveBit]
      unfold rb_Scope_aboveBit
      have e1 : nI r - 1 = nI (r - 1) := by
        have := nI_sub (k := r - 1)
        rw [show r - 1 + 1 = r by omega] at this
        exact this
      have e2 : nI (r - 1) * 3 + nI s - 1 = nI ((r - 1) * 3 + s - 1) := by
        rw [show (3 : Int32) = nI 3 from rfl, nI_mul, show nI ((r - 1) * 3) + nI s = nI ((r - 1) * 3 + s) from (Int32.ofNat_add _ _).symm]
        have := nI_sub (k := (r - 1) * 3 + s - 1)
        rw [show (r - 1) * 3 + s - 1 + 1 = (r - 1) * 3 + s by omega] at this
        exact this
      rw [e1, e2]
    rw [ab, bis]
    by_cases c6 : ((T.1 40 (T.1 67 0).toNatClampNeg >>> (nI ((r - 1) * 3 + s - 1) &&& 31)) &&& 1) = 0
    · rw [if_pos c6]
      exact ⟨false, rfl, fun w => absurd w (by decide), fun w => by
        rcases w with w | w | w
        · exact absurd w c1
        · exact absurd w c2
        · exact absurd c6 w.2.2⟩
    · rw [if_neg c6]
      exact ⟨true, rfl, fun _ => Or.inr (Or.inr ⟨by omega, c5, c6⟩), fun _ => rfl⟩
  · rw [if_neg c3, if_pos (show 4 ≤ s by omega), c_isLive hr (by omega), bis]
    by_cases c4 : fb (flw T) (40 + r) = true
    · rw [if_pos c4, if_neg (by decide)]
      by_cases c5 : r < 4
      · rw [if_pos c5]
        exact ⟨true, rfl, fun _ => Or.inr (Or.inr ⟨c4, Or.inl c5⟩), fun _ => rfl⟩
      rw [if_neg c5]
      by_cases c6 : r < s
      · rw [if_neg (show ¬ s ≤ r by omega)]
        exact ⟨true, rfl, fun _ => Or.inr (Or.inr ⟨c4, Or.inr c6⟩), fun _ => rfl⟩
      · rw [if_pos (show s ≤ r by omega)]
        exact ⟨false, rfl, fun w => absurd w (by decide), fun w => by
          rcases w with w | w | w
          · exact absurd w c1
          · exact absurd w c2
          · omega⟩
    · rw [if_neg c4, if_pos rfl]
      exact ⟨false, rfl, fun w => absurd w (by decide), fun w => by
        rcases w with w | w | w
        · exact absurd w c1
        · exact absurd w c2
        · exact absurd w.1 c4⟩
end CSV
