/-! what holds of the lists while blocks are checked -/
abbrev tV (T : gSt) (x : Int32) : Prop := x = 0 ∨ ∃ p, x = nI p ∧ 1 ≤ p ∧ p < cn T
def tR (T : gSt) (x : Int32) : Prop := x = -1 ∨ x = -2 ∨ tV T x
def PK (w : Int32) (k : Nat) : Prop := ∀ j, j < 3 → (∃ r, ptOf w (nI j) = nI r ∧ r < 12) ∧ (k ≤ j → ptOf w (nI j) = 0)
def rC2 (s : Int32) : Prop := ∃ r, s = nI r ∧ r < 12
/-- a row of the list of types that may come behind n others -/
def rwOk (T : gSt) (n : Nat) (z : T5) : Prop := (z.1 = 1 ∨ z.1 = 2 ∨ z.1 = 3) ∧ rC2 z.2.1 ∧ PK z.2.2.2.2 3 ∧ (z.1 = 3 → ¬ 0 ≤ z.2.2.2.1) ∧ (if 0 ≤ z.2.2.2.1 then ∃ t, z.2.2.2.1 = nI t ∧ t < inn T else z.2.2.1 = 0 ∨ ∃ q, z.2.2.1 = nI q ∧ 1 ≤ q ∧ q < n)
def Rws (T : gSt) : Prop := ∀ p, 1 ≤ p → p < cn T → rwOk T p (rwT T p)
def itOk (T : gSt) (t : Nat) : Prop := ∃ c m r w, T.1 18 t = nI c ∧ T.1 19 t = nI m ∧ m ≤ 8 ∧ c + m ≤ 220 ∧ T.1 15 t = nI r ∧ r ≤ 3 ∧ T.1 31 t = nI w ∧ w ≤ 3 ∧ (∀ f, f < m → tV T (T.1 24 (c + f)) ∧ dOk T 7 (T.1 24 (c + f))) ∧ (0 ≤ T.1 25 t → tV T (T.1 26 t) ∧ dOk T 7 (T.1 26 t)) ∧ (∀ k, k < 2 * w → ∃ a, roI T t (T.2 32 (6 * t + k)) = nI a ∧ 1 ≤ a ∧ a ≤ r)
def Cst (T : gSt) : Prop := (Rg T ∧ ∀ k, k < rn T → rC2 (T.1 73 k)) ∧ Ri T ∧ (T.1 11 0 = nI (inn T) ∧ inn T ≤ 24 ∧ ∀ t, t < inn T → itOk T t) ∧ (T.1 77 0 = nI (vn T) ∧ vn T ≤ 20 ∧ ∀ v, v < vn T → tV T (T.1 80 v))
def Ck (T : gSt) : Prop := Tg T ∧ Rws T ∧ Cst T
section IVV
variable {T T' T'' T1 : gSt} {X : Lx} {n p u m q k i j e f : Nat} {r s x y v w a b c : Int32} {z : T5}
theorem or_and3 {o : Int32} : (x ||| y) &&& o = (x &&& o) ||| (y &&& o) := by
  apply Int32.toBitVec_inj.1
  simp only [Int32.toBitVec_and, Int32.toBitVec_or]
  ext i hi
  simp only [BitVec.getElem_and, BitVec.getElem_or, Bool.and_or_distrib_right]
theorem ptOf_or : ptOf (x ||| y) r = ptOf x r ||| ptOf y r := by
  unfold ptOf
  rw [Int32.shiftRight_or, or_and3]
theorem ptOf_sh : ∀ (c : Fin 12) (k j : Fin 3), ptOf (nI c.1 <<< (((10 : Int32) * nI k.1) &&& 31)) (nI j.1) = if j = k then nI c.1 else 0 := by decide
theorem PK.st (h : PK w k) (hk : k < 3) (hc : rC2 c) : PK (w ||| (c <<< (((10 : Int32) * nI k) &&& 31))) (k + 1) ∧ ptOf (w ||| (c <<< (((10 : Int32) * nI k) &&& 31))) (nI k) = c ∧ ∀ j, j < k → ptOf (w ||| (c <<< (((10 : Int32) * nI k) &&& 31))) (nI j) = ptOf w (nI j) := by
  obtain ⟨r, rfl, hr⟩ := hc
  have key : ∀ j, j < 3 → ptOf (w ||| (nI r <<< (((10 : Int32) * nI k) &&& 31))) (nI j) = ptOf w (nI j) ||| (if j = k then nI r else 0) := by
    intro j hj
    have := ptOf_sh ⟨r, hr⟩ ⟨k, hk⟩ ⟨j, hj⟩
    simp only [Fin.mk.injEq] at this
    rw [ptOf_or, this]
  refine ⟨fun j hj => ⟨?_, fun hkj => ?_⟩, ?_, fun j hj => ?_⟩
  · rw [key j hj]
    by_cases e : j = k
    · subst e
      rw [if_pos rfl, (h j hj).2 (Nat.le_refl _), Int32.zero_or]
      exact ⟨r, rfl, hr⟩
    · rw [if_neg e, Int32.or_zero]
      exact (h j hj).1
  · rw [key j hj, if_neg (by omega), Int32.or_zero]
    exact (h j hj).2 (by omega)
  · rw [key k hk, if_pos rfl, (h k hk).2 (Nat.le_refl _), Int32.zero_or]
  · rw [key j (by omega), if_neg (by omega), Int32.or_zero]
theorem PK.zr : PK 0 0 := by
  have h0 : ∀ j : Fin 3, ptOf 0 (nI j.1) = 0 := by decide
  intro j hj
  have := h0 ⟨j, hj⟩
  exact ⟨⟨0, this, by omega⟩, fun _ => this⟩
theorem PK.up (h : PK w k) : PK w 3 := fun j hj => ⟨(h j hj).1, fun q => by omega⟩
theorem PK.at (h : PK w 3) (hj : j < 3) : rC2 (ptOf w (nI j)) := (h j hj).1
theorem rC2.rc (h : rC2 s) : rC s := Or.inr h
theorem tV.up (h : tV T x) (hc : cn T ≤ cn T') : tV T' x := by
  rcases h with h | ⟨p, e, h1, h2⟩
  · exact Or.inl h
  · exact Or.inr ⟨p, e, h1, by omega⟩
theorem tR.up (h : tR T x) (hc : cn T ≤ cn T') : tR T' x := by
  rcases h with h | h | h
  · exact Or.inl h
  · exact Or.inr (Or.inl h)
  · exact Or.inr (Or.inr (h.up hc))
theorem dOk.up (hc : cn T ≤ cn T') (h15 : T'.1 15 = T.1 15) (hr : ∀ p, p < cn T → rwT T' p = rwT T p) : ∀ (f : Nat) (x : Int32), dOk T f x → dOk T' f x := by
  intro f
  induction f with
  | zero => intro x h; exact h
  | succ f ih =>
    intro x h hx
    obtain ⟨p, e, h1, h2, h3⟩ := h hx
    have e69 : T'.1 69 p = T.1 69 p := congrArg (fun z : T5 => z.2.2.2.1) (hr p h2)
    have e68 : T'.1 68 p = T.1 68 p := congrArg (fun z : T5 => z.2.2.1) (hr p h2)
    refine ⟨p, e, h1, by omega, ?_⟩
    rw [e69, e68, h15]
    by_cases c : 0 ≤ T.1 69 p
    · rw [if_pos c] at h3 ⊢
      exact h3
    · rw [if_neg c] at h3 ⊢
      exact ih _ h3
theorem FE.einn (h : FE T T') : inn T' = inn T := by
  unfold inn
  rw [h.1 11 (by omega)]
theorem FE.evn (h : FE T T') : vn T' = vn T := by
  unfold vn
  rw [h.1 77 (by omega)]
theorem FE.ern (h : FE T T') : rn T' = rn T := by
  unfold rn
  rw [h.1 71 (by omega)]
theorem roI_fe {nm : Int64} (h : FE T T') : roI T' i nm = roI T i nm := by
  unfold roI
  have e1 : isRi T' i nm = isRi T i nm := by
    funext k
    unfold isRi
    rw [h.2.1]
  rw [e1, h.1 15 (by omega)]
theorem Cst.fe (hs : Cst T) (h : FE T T') (hg : Tg T) (hc : cn T' < 6000) : Cst T' := by
  obtain ⟨⟨a1, a2⟩, a3, ⟨a4, a5, a6⟩, a7, a8, a9⟩ := hs
  have g := h.2.2.1 hg
  refine ⟨⟨⟨?_, ?_⟩, ?_⟩, ?_, ⟨?_, ?_, ?_⟩, ?_, ?_, ?_⟩
  · rw [h.ern, h.1 71 (by omega)]; exact a1.1
  · rw [h.ern]; exact a1.2
  · intro k hk
    rw [h.ern] at hk
    rw [h.1 73 (by omega)]
    exact a2 k hk
  · intro c hc2
    rw [h.1 74 (by omega)]
    exact a3 c hc2
  · rw [h.einn, h.1 11 (by omega)]; exact a4
  · rw [h.einn]; exact a5
  · intro t ht
    rw [h.einn] at ht
    obtain ⟨c, m, r, w, b1, b2, b3, b4, b5, b6, b7, b8, b9, b10, b11⟩ := a6 t ht
    have d := dOk.up g.2.1 (h.1 15 (by omega)) (g.2.2 hc)
    refine ⟨c, m, r, w, ?_, ?_, b3, b4, ?_, b6, ?_, b8, fun f hf => ?_, fun q => ?_, fun k hk => ?_⟩
    · rw [h.1 18 (by omega)]; exact b1
    · rw [h.1 19 (by omega)]; exact b2
    · rw [h.1 15 (by omega)]; exact b5
    · rw [h.1 31 (by omega)]; exact b7
    · rw [h.1 24 (by omega)]
      exact ⟨(b9 f hf).1.up g.2.1, d 7 _ (b9 f hf).2⟩
    · rw [h.1 25 (by omega)] at q
      rw [h.1 26 (by omega)]
      exact ⟨(b10 q).1.up g.2.1, d 7 _ (b10 q).2⟩
    · rw [h.2.1, roI_fe h]
      exact b11 k hk
  · rw [h.evn, h.1 77 (by omega)]; exact a7
  · rw [h.evn]; exact a8
  · intro v hv
    rw [h.evn] at hv
    rw [h.1 80 (by omega)]
    exact (a9 v hv).up g.2.1
theorem rwOk.fe (h : rwOk T n z) (e : inn T' = inn T) : rwOk T' n z := by
  unfold rwOk at h ⊢
  rw [e]
  exact h
theorem rwOk.up (h : rwOk T n z) (e : n ≤ m) : rwOk T m z := by
  unfold rwOk at h ⊢
  refine ⟨h.1, h.2.1, h.2.2.1, h.2.2.2.1, ?_⟩
  have h5 := h.2.2.2.2
  by_cases c : 0 ≤ z.2.2.2.1
  · rw [if_pos c] at h5 ⊢
    exact h5
  · rw [if_neg c] at h5 ⊢
    rcases h5 with h5 | ⟨q, e1, e2, e3⟩
    · exact Or.inl h5
    · exact Or.inr ⟨q, e1, e2, by omega⟩
theorem Rws.wr (h : Rws T) (hk : k < 65 ∨ 70 < k) (h11 : k ≠ 11) : Rws (sI T k i v) := by
  intro p h1 h2
  rw [cn_w (by omega)] at h2
  rw [rwT_w hk]
  exact (h p h1 h2).fe (by unfold inn; rw [sI_ne (fun e => h11 e.symm)])
theorem Rws.fl (h : Rws T) : Rws (flT T a b) := by
  unfold flT failS
  split
  · exact (h.wr (by omega) (by omega)).wr (by omega) (by omega)
  · exact h
/-- a row that is added, or stands there already -/
theorem Rws.kn (hg : Tg T) (h : Rws T) (hz : rwOk T (cn T) z) (hc : cn (knS T z) < 6000) : Rws (knS T z) ∧ ∃ p, knR T z = nI p ∧ 1 ≤ p ∧ p < cn (knS T z) ∧ rwT (knS T z) p = z := by
  have h6 : cn T < 6000 := kn_lt hg hc
  unfold knS knR at *
  by_cases c : knF T z = -1
  · simp only [if_pos c, if_pos h6] at hc ⊢
    refine ⟨fun p h1 h2 => ?_, cn T, hg.1, hg.2.1, by rw [cn_ad h6]; omega, by rw [adT_row, if_pos rfl]⟩
    rw [cn_ad h6] at h2
    have ei : inn (adT T (cn T) z) = inn T := by
      unfold inn
      rw [adT_o (by omega)]
    rw [adT_row]
    by_cases e : p = cn T
    · rw [if_pos e, e]
      exact hz.fe ei
    · rw [if_neg e]
      exact (h p h1 (by omega)).fe ei
  · simp only [if_neg c] at hc ⊢
    refine ⟨h, ?_⟩
    unfold knF at c ⊢
    have hv := ff_val (p := eqT T z) (k := cn T - 1) (i := 1)
    rcases hv with hv | ⟨j, b1, b2, b3, b4⟩
    · exact absurd hv c
    · exact ⟨j, b4, b1, by omega, by unfold eqT at b3; exact of_decide_eq_true b3⟩
theorem chP_ok (h : rC2 r) (hw : PK w 3) : rC2 (chP w r) := by
  unfold chP
  split
  · exact h
  · split
    · exact h
    · rename_i h1 h3
      obtain ⟨n, rfl, hn⟩ := h
      have a1 : 1 ≤ n := by
        refine Nat.pos_of_ne_zero (fun e => h1 ?_)
        subst e
        decide
      have a3 : n ≤ 3 := by
        refine Nat.le_of_not_lt (fun e => h3 ?_)
        exact nI_lt (a := 3) e (by omega)
      have e : nI n - 1 = nI (n - 1) := by
        obtain ⟨k, rfl⟩ : ∃ k, n = k + 1 := ⟨n - 1, by omega⟩
        rw [← nI_1]
        exact Int32.add_sub_cancel _ _
      rw [e]
      exact hw.at (by omega)
theorem chW_ok {o : Int32} (hw : PK w 3) (ho : PK o 3) : ∀ (m k : Nat) (all : Int32), k + m ≤ 3 → PK all k → PK (chW w o m k all) 3 := by
  intro m
  induction m with
  | zero => intro k all _ h; exact h.up
  | succ m ih =>
    intro k all hk h
    rw [chW]
    exact ih (k + 1) _ (by omega) (h.st (by omega) (chP_ok (ho.at (by omega)) hw)).1
theorem rwT_g (h : rwT T p = z) : T.1 66 p = z.1 ∧ T.1 67 p = z.2.1 ∧ T.1 68 p = z.2.2.1 ∧ T.1 69 p = z.2.2.2.1 ∧ T.1 70 p = z.2.2.2.2 := by
  subst h
  exact ⟨rfl, rfl, rfl, rfl, rfl⟩
theorem Tg.inn_ch (h : FE T T') (hz : rwOk T n z) : rwOk T' n z := hz.fe h.einn
/-- a type told with other regions is a type -/
theorem ch_ok (hw : PK w 3) : ∀ (f : Nat) (T : gSt) (x : Int32), Tg T → Rws T → tV T x → dOk T f x → cn (chT f T x w).2 < 6000 → Rws (chT f T x w).2 ∧ tV (chT f T x w).2 (chT f T x w).1 := by
  intro f
  induction f with
  | zero =>
    intro T x hg hr hv hd hc
    exact ⟨hr, hv⟩
  | succ f ih =>
    intro T x hg hr hv hd hc
    rw [chT] at hc ⊢
    by_cases hx : 0 < x
    · simp only [if_pos hx] at hc ⊢
      obtain ⟨p, rfl, d1, d2, d3⟩ := hd hx
      have cp : (nI p).toNatClampNeg = p := nc (by omega)
      simp only [cp] at hc ⊢
      have hp1 : 1 ≤ p := by
        refine Nat.pos_of_ne_zero (fun e => ?_)
        subst e
        exact absurd hx (by decide)
      have ro := hr p hp1 d2
      obtain ⟨o1, o2, o3, o4, o5⟩ := ro
      change T.1 66 p = 1 ∨ T.1 66 p = 2 ∨ T.1 66 p = 3 at o1
      change rC2 (T.1 67 p) at o2
      change PK (T.1 70 p) 3 at o3
      change T.1 66 p = 3 → ¬ 0 ≤ T.1 69 p at o4
      change (if 0 ≤ T.1 69 p then ∃ t, T.1 69 p = nI t ∧ t < inn T else T.1 68 p = 0 ∨ ∃ q, T.1 68 p = nI q ∧ 1 ≤ q ∧ q < p) at o5
      by_cases h9 : 0 ≤ T.1 69 p
      · simp only [if_pos h9] at hc d3 o5 ⊢
        obtain ⟨t, rr, t1, t2, t3, t4⟩ := d3
        have e1 : (T.1 15 (T.1 69 p).toNatClampNeg).toNatClampNeg = rr := by rw [t1, nc (by omega), t3, nc (by omega)]
        have k1 := Rws.kn hg hr (z := (T.1 66 p, chP w (T.1 67 p), -1, T.1 69 p, chW w (T.1 70 p) (T.1 15 (T.1 69 p).toNatClampNeg).toNatClampNeg 0 0)) ⟨o1, chP_ok o2 hw, by rw [e1]; exact chW_ok hw o3 rr 0 0 (by omega) PK.zr, o4, by show (if 0 ≤ T.1 69 p then _ else _); rw [if_pos h9]; exact o5⟩ hc
        obtain ⟨k2, q, k3, k4, k5, -⟩ := k1
        exact ⟨k2, Or.inr ⟨q, k3, k4, k5⟩⟩
      · simp only [if_neg h9] at hc d3 o5 ⊢
        have v1 : tV T (T.1 68 p) := by
          rcases o5 with o5 | ⟨q, o6, o7, o8⟩
          · exact Or.inl o5
          · exact Or.inr ⟨q, o6, o7, by omega⟩
        have fe := FE.ch (w := w) f T (T.1 68 p)
        have g1 := fe.tg hg
        have i1 := ih T (T.1 68 p) hg hr v1 d3 (kn_lt g1 hc)
        have k1 := Rws.kn g1 i1.1 (z := (T.1 66 p, chP w (T.1 67 p), (chT f T (T.1 68 p) w).1, -1, 0)) ⟨o1, chP_ok o2 hw, PK.zr.up, fun _ => (by decide : ¬ (0 : Int32) ≤ -1), by
          show (if (0 : Int32) ≤ -1 then _ else _)
          rw [if_neg (by decide)]
          exact i1.2⟩ hc
        obtain ⟨k2, q, k3, k4, k5, -⟩ := k1
        exact ⟨k2, Or.inr ⟨q, k3, k4, k5⟩⟩
    · simp only [if_neg hx]
      exact ⟨hr, hv⟩
end IVV
