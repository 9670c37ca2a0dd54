/-! what holds of the class's types also behind a fault -/
/-- a type's number as it may be: one of the three, or a live slot -/
def tyY (T : gSt) (y : Nat) : Prop := y < 3 ∨ (y < 16387 ∧ lvK T (y - 3))
/-- how many items there are -/
def itN (T : gSt) : Nat := (T.1 27 0).toNatClampNeg
/-- a key as it may be -/
def kyV (T : gSt) (k : Nat) : Prop := k < KM ∧ ((k % 8 = 6 ∧ k / 8 % 32 < 24 ∧ k / 8 % 32 < itN T) ∨ (3 ≤ k % 8 ∧ k % 8 ≤ 5 ∧ tyY T (k / 128)))
def WT (T : gSt) : Prop := TyI T ∧ ∀ s, s < 16384 → lvK T s → kyV T (SW T s % KM)
/-- what types leave as it was, behind a fault too -/
def FtW (T T' : gSt) : Prop := T'.1 = T.1 ∧ (∀ q j, q ≠ 62 → T'.2 q j = T.2 q j) ∧ WT T' ∧ ∀ y, tyY T y → tyY T' y
section CWK
variable {T T' T1 : gSt} {nf d k s y r b t n : Nat} {x : Int64}
theorem FtW.tr (h : FtW T T1) (h2 : FtW T1 T') : FtW T T' := ⟨h2.1.trans h.1, fun q j a => (h2.2.1 q j a).trans (h.2.1 q j a), h2.2.2.1, fun y a => h2.2.2.2 y (h.2.2.2 y a)⟩
theorem FtW.rf (h : WT T) : FtW T T := ⟨rfl, fun _ _ _ => rfl, h, fun _ a => a⟩
theorem lvC_full : ∀ n, lvC T n = n → ∀ s, s < n → lvK T s := by
  intro n
  induction n with
  | zero => intro _ s hs; omega
  | succ n ih =>
    intro h s hs
    rw [lvC] at h
    have := lvC_le (T := T) n
    by_cases c : SW T n / KM = EW T
    · rw [if_pos c] at h
      by_cases cs : s = n
      · rw [cs]; exact c
      · exact ih (by omega) s (by omega)
    · rw [if_neg c] at h
      omega
/-- keep, whatever there is: a type's number, and what was there is there -/
theorem k_keep (hnf : 16385 ≤ nf) (hW : WT T) (hx : wN x = k) (hk : kyV T k) (hd : 1 ≤ d) : ∃ y T', PP nf d 87 T [] [x] = some (nI y, 0, T') ∧ tyY T' y ∧ 1 ≤ y ∧ FtW T T' := by
  by_cases hf : lvC T 16384 < 16384
  · obtain ⟨s, T', h1, h2, h3, h4, h5, h6, h7, h8, h9, h10⟩ := c_kp hnf hW.1 hx hk.1 hf hd
    have ls : lvK T' s := by unfold lvK; rw [h3]; exact (kyN_lv hk.1).1
    have old : ∀ q, q < 16384 → lvK T q → lvK T' q ∧ SW T' q = SW T q := fun q hq hl => by
      have e : SW T' q = SW T q := by unfold SW; rw [h8 q hq hl]
      exact ⟨by unfold lvK; rw [e, h4]; exact hl, e⟩
    have mono : ∀ y, tyY T y → tyY T' y := fun y hy => by
      rcases hy with hy | ⟨hy, hl⟩
      · exact Or.inl hy
      · by_cases c3 : y < 3
        · exact Or.inl c3
        · exact Or.inr ⟨hy, (old (y - 3) (by omega) hl).1⟩
    have kmo : ∀ k, kyV T k → kyV T' k := fun k hk => ⟨hk.1, by
      rcases hk.2 with h | h
      · exact Or.inl ⟨h.1, h.2.1, by unfold itN; rw [h6]; exact h.2.2⟩
      · exact Or.inr ⟨h.1, h.2.1, mono _ h.2.2⟩⟩
    refine ⟨s + 3, T', h1, Or.inr ⟨by omega, by rw [show s + 3 - 3 = s by omega]; exact ls⟩, by omega, h6, fun q j a => h7 q j (fun w => a w.1), ⟨h5, fun q hq lq => ?_⟩, mono⟩
    · by_cases c : lvK T q
      · rw [(old q hq c).2]; exact kmo _ (hW.2 q hq c)
      · by_cases cq : q = s
        · rw [cq, h3, (kyN_lv hk.1).2]; exact kmo _ hk
        · exfalso
          refine c ?_
          have e : SW T' q = SW T q := by unfold SW; rw [h7 62 q (fun w => cq w.2)]
          unfold lvK at lq ⊢
          rw [← e, ← h4]; exact lq
  · have al := lvC_full (T := T) 16384 (by have := lvC_le (T := T) 16384; omega)
    obtain ⟨d, rfl⟩ : ∃ g, d = g + 1 := ⟨d - 1, by omega⟩
    have key := c_keep (d := d) (T := T) (k := x) hnf (by rw [hx]; exact hk.1) hW.1.1
    by_cases c : kpF T (wN x) (hsN x) = -1
    · rw [if_pos c] at key
      exact ⟨1, T, key, Or.inl (by omega), by omega, FtW.rf hW⟩
    · rw [if_neg c] at key
      have hs : (hsN x + (kpF T (wN x) (hsN x)).toNatClampNeg) % 16384 < 16384 := Nat.mod_lt _ (by omega)
      generalize (hsN x + (kpF T (wN x) (hsN x)).toNatClampNeg) % 16384 = s at *
      have l := al s hs
      have e : kpT T s (kyW (T.2 63 0) x) = T := by unfold kpT; rw [if_pos l]
      rw [e] at key
      exact ⟨s + 3, T, key, Or.inr ⟨by omega, by rw [show s + 3 - 3 = s by omega]; exact l⟩, by omega, FtW.rf hW⟩
theorem tyY.lt (h : tyY T y) : y < 16387 := by
  rcases h with h | h
  · omega
  · exact h.1
theorem tyY_l (h : tyY T y) : y < 16387 := h.lt
theorem k_ptr (hnf : 16385 ≤ nf) (hW : WT T) (hk : 3 ≤ k) (hk2 : k ≤ 5) (hr : r < 16) (hb : tyY T b) (hd : 2 ≤ d) : ∃ y T', PP nf d 88 T [nI k, nI r, nI b] [] = some (nI y, 0, T') ∧ tyY T' y ∧ 1 ≤ y ∧ FtW T T' := by
  obtain ⟨d, rfl⟩ : ∃ g, d = g + 1 := ⟨d - 1, by omega⟩
  have hbl := hb.lt
  have hy := ky_ptr (k := k) (r := r) (b := b) (by omega) hr (by omega)
  obtain ⟨y, T', h1, h2⟩ := k_keep (d := d) hnf hW hy ⟨by have : KM = 16777216 := rfl; omega, Or.inr ⟨by omega, by omega, by rw [show (k + 8 * r + 128 * b) / 128 = b by omega]; exact hb⟩⟩ (by omega)
  refine ⟨y, T', ?_, h2⟩
  rw [e_Types_pointer]
  unfold rb_Types_pointer
  rw [h1, bis]
theorem k_thg (hnf : 16385 ≤ nf) (hW : WT T) (ht : t < 24) (hti : t < itN T) (hr : r < 4096) (hd : 2 ≤ d) : ∃ y T', PP nf d 89 T [nI t, nI r] [] = some (nI y, 0, T') ∧ tyY T' y ∧ 1 ≤ y ∧ FtW T T' := by
  obtain ⟨d, rfl⟩ : ∃ g, d = g + 1 := ⟨d - 1, by omega⟩
  have hy := ky_thg (t := t) (r := r) (by omega) hr
  obtain ⟨y, T', h1, h2⟩ := k_keep (d := d) hnf hW hy ⟨by have : KM = 16777216 := rfl; omega, Or.inl ⟨by omega, by omega, by rw [show (6 + 8 * t + 256 * r) / 8 % 32 = t by omega]; exact hti⟩⟩ (by omega)
  refine ⟨y, T', ?_, h2⟩
  rw [e_Types_thing]
  unfold rb_Types_thing
  rw [h1, bis]
/-- the key of a type as it may be -/
theorem kO_v (hW : WT T) (hy : tyY T y) : y < 3 ∨ kyV T (kO T y) := by
  rcases hy with h | ⟨h, l⟩
  · exact Or.inl h
  · by_cases c : y < 3
    · exact Or.inl c
    · right
      unfold kO
      rw [if_neg (by omega)]
      exact hW.2 _ (by omega) l
/-- told, whatever there is -/
theorem k_told (hnf : 16385 ≤ nf) {g : Nat} (hg : g < 4096) : ∀ (m dp y d : Nat) (T : gSt), WT T → dp + m = 7 → 1 ≤ dp → tyY T y → 10 * m + 20 ≤ d → ∃ z T', PP nf d 98 T [nI y, nI g, nI dp] [] = some (nI z, 0, T') ∧ tyY T' z ∧ FtW T T' := by
  intro m
  induction m with
  | zero =>
    intro dp y d T hW h1 h2 hk hd
    obtain ⟨d, rfl⟩ : ∃ g, d = g + 1 := ⟨d - 1, by omega⟩
    have hy := hk.lt
    refine ⟨y, T, ?_, hk, FtW.rf hW⟩
    rw [e_Types_told]
    unfold rb_Types_told
    rw [c_kindOf (by omega) (by omega), bis]
    split
    · rfl
    · rw [if_neg (fun w => by
        have := (nI_leI (a := dp) (b := 6) (by omega) (by omega)).mp w
        omega)]
  | succ m ih =>
    intro dp y d T hW h1 h2 hk hd
    obtain ⟨d, rfl⟩ : ∃ g, d = g + 1 := ⟨d - 1, by omega⟩
    have hy := hk.lt
    have kl := kdC_lt (T := T) (y := y)
    have ko : kO T y < 16777216 := kO_lt
    have hd6 : nI dp ≤ 6 := (nI_leI (a := dp) (b := 6) (by omega) (by omega)).mpr (by omega)
    rw [e_Types_told]
    unfold rb_Types_told
    rw [c_kindOf (by omega) (by omega), bis]
    have l2 : (nI (kdC T y) ≤ 2) = (kdC T y ≤ 2) := propext (nI_leI (a := kdC T y) (b := 2) (by omega) (by omega))
    have q6 : (nI (kdC T y) = 6) = (kdC T y = 6) := ci_eq (j := 6) (by omega) (by omega)
    simp only [l2, q6, if_pos hd6]
    by_cases c2 : kdC T y ≤ 2
    · rw [if_pos c2]
      exact ⟨y, T, rfl, hk, FtW.rf hW⟩
    rw [if_neg c2]
    have y3 : ¬ y < 3 := fun w => by unfold kdC at c2; rw [if_pos w] at c2; omega
    have ek : kdC T y = kO T y % 8 := by unfold kdC; rw [if_neg y3]
    have kv : kyV T (kO T y) := by
      rcases kO_v hW hk with h | h
      · exact absurd h y3
      · exact h
    by_cases c6 : kdC T y = 6
    · rw [if_pos c6, c_keyOf (by omega) (by omega), bis, bShr (j := 8) (by decide) (by omega) (by omega), bAnd (j := 12) rfl (by omega), c_toldAll (by omega) (by omega) hg (by omega), bis, bShr (j := 3) (by decide) (by omega) (by omega), bAnd (j := 5) rfl (by omega)]
      have t24 : kO T y / 2 ^ 3 % 2 ^ 5 < 24 ∧ kO T y / 2 ^ 3 % 2 ^ 5 < itN T := by
        rcases kv.2 with h | h
        · exact h.2
        · omega
      obtain ⟨z, T', q1, q2, _, q3⟩ := k_thg (d := d) (t := kO T y / 2 ^ 3 % 2 ^ 5) (r := taC g (kO T y / 2 ^ 8 % 2 ^ 12)) hnf hW t24.1 t24.2 (ta_lt (by omega)) (by omega)
      rw [q1, bis]
      exact ⟨z, T', rfl, q2, q3⟩
    · rw [if_neg c6, c_regionOf (by omega) (by omega), bis]
      have rl : rkC T y < 16 := Nat.mod_lt _ (by omega)
      have hb : tyY T (bhC T y) := by
        unfold bhC
        rcases kv.2 with h | h
        · omega
        · exact h.2.2
      have bl := hb.lt
      rw [c_toldOne rl hg (by omega), bis, c_behind (by omega) (by omega), bis, nI_1]
      obtain ⟨zb, T1, z1, z2, z3⟩ := ih (dp + 1) (bhC T y) d T hW (by omega) (by omega) hb (by omega)
      rw [z1, bis]
      obtain ⟨z, T', q1, q2, _, q3⟩ := k_ptr (d := d) (k := kdC T y) (r := t1C g (rkC T y)) (b := zb) hnf z3.2.2.1 (by omega) (by rw [ek] at *; rcases kv.2 with h | h <;> omega) (t1_lt rl) z2 (by omega)
      rw [q1, bis]
      exact ⟨z, T', rfl, q2, z3.tr q3⟩
theorem ty_k0 (hW : WT T) (h : tyY T y) (k0 : kdC T y = 0) : y = 0 := by
  by_cases c : y < 3
  · unfold kdC at k0
    rw [if_pos c] at k0
    exact k0
  · rcases h with h | ⟨h1, h2⟩
    · omega
    · exfalso
      unfold kdC kO at k0
      rw [if_neg c, if_neg (by omega)] at k0
      rcases (hW.2 (y - 3) (by omega) h2).2 with ⟨w, _⟩ | ⟨w, _⟩ <;> omega
theorem wd_eq {z : Nat} (hW : WT T) (h1 : tyY T y) (h2 : tyY T z) (kk : kdC T y = kdC T z) : wdC T y = wdC T z := by
  by_cases c : kdC T y = 0
  · rw [ty_k0 hW h1 c, ty_k0 hW h2 (by rw [← kk]; exact c)]
  · rw [wd_nz c, wd_nz (by rw [← kk]; exact c), kk]
end CWK
