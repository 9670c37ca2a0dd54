/-! room for types: how many a program can make -/
def usB (T : gSt) (x : Int32) : Bool := decide (0 < x) && (decide (tf T 66 x = 2) && decide (knF T (1, tf T 67 x, tf T 68 x, tf T 69 x, tf T 70 x) = -1))
def cntB (p : Nat → Bool) : Nat → Nat
  | 0 => 0
  | n + 1 => cntB p n + (if p n = true then 1 else 0)
/-- vars in sight whose solid kin has not been told yet -/
def psi (T : gSt) : Nat := cntB (fun v => usB T (T.1 80 v)) (vn T)
def pot (T : gSt) : Nat := if cn T < 6000 then 2 * (cn T + psi T) else 12000
def Vv (T : gSt) : Prop := ∀ v, v < vn T → tV T (T.1 80 v)
/-- how many pointers a type has, one in another -/
def dpt (T : gSt) : Nat → Int32 → Nat
  | 0, _ => 0
  | f + 1, x => if 0 < x then (if 0 ≤ T.1 69 x.toNatClampNeg then 1 else 1 + dpt T f (T.1 68 x.toNatClampNeg)) else 0
section RM1
variable {T T' T1 S S' : gSt} {X : Lx} {p q k m n f v : Nat} {x y w : Int32} {z : T5}
theorem cnt_mono {p q : Nat → Bool} : ∀ n, (∀ v, v < n → q v = true → p v = true) → cntB q n ≤ cntB p n := by
  intro n
  induction n with
  | zero => intro _; exact Nat.le_refl _
  | succ n ih =>
    intro h
    have i := ih (fun v hv => h v (by omega))
    rw [cntB, cntB]
    by_cases c : q n = true
    · rw [if_pos c, if_pos (h n (by omega) c)]; omega
    · rw [if_neg c]; omega
theorem cnt_less {p q : Nat → Bool} : ∀ n, (∀ v, v < n → q v = true → p v = true) → ∀ u, u < n → p u = true → ¬ q u = true → cntB q n + 1 ≤ cntB p n := by
  intro n
  induction n with
  | zero => intro _ u hu; omega
  | succ n ih =>
    intro h u hu h1 h2
    rw [cntB, cntB]
    by_cases e : u = n
    · subst e
      have i := cnt_mono u (fun v hv => h v (by omega))
      rw [if_neg h2, if_pos h1]
      omega
    · have i := ih (fun v hv => h v (by omega)) u (by omega) h1 h2
      by_cases c : q n = true
      · rw [if_pos c, if_pos (h n (by omega) c)]; omega
      · rw [if_neg c]; omega
theorem cnt_le {p : Nat → Bool} : ∀ n, cntB p n ≤ n := by
  intro n
  induction n with
  | zero => exact Nat.le_refl _
  | succ n ih => rw [cntB]; split <;> omega
theorem cnt_up {p : Nat → Bool} {n : Nat} : ∀ m, n ≤ m → cntB p n ≤ cntB p m := by
  intro m
  induction m with
  | zero => intro h; obtain rfl : n = 0 := by omega
            exact Nat.le_refl _
  | succ m ih =>
    intro h
    by_cases e : n = m + 1
    · rw [e]; exact Nat.le_refl _
    · have := ih (by omega)
      rw [cntB]
      omega
/-- a row that is missing in the longer list is missing in the shorter -/
theorem knF_mono (hg : Tg T) (hg' : Tg T') (hc : cn T ≤ cn T') (hr : ∀ p, p < cn T → rwT T' p = rwT T p) (h : knF T' z = -1) : knF T z = -1 := by
  have b1 := hg.2.2
  have b2 := hg'.2.2
  unfold knF at *
  rw [ff_all (by omega)] at h ⊢
  intro j h1 h2
  have := h j h1 (by omega)
  unfold eqT at this ⊢
  rw [hr j (by omega)] at this
  exact this
theorem tf_row (hg : Tg T) (hp : p < cn T) : tf T 66 (nI p) = T.1 66 p ∧ tf T 67 (nI p) = T.1 67 p ∧ tf T 68 (nI p) = T.1 68 p ∧ tf T 69 (nI p) = T.1 69 p ∧ tf T 70 (nI p) = T.1 70 p := by
  have := hg.2.2
  unfold tf
  rw [nc (by omega)]
  exact ⟨rfl, rfl, rfl, rfl, rfl⟩
theorem row5 (h : rwT T' p = rwT T p) : T'.1 66 p = T.1 66 p ∧ T'.1 67 p = T.1 67 p ∧ T'.1 68 p = T.1 68 p ∧ T'.1 69 p = T.1 69 p ∧ T'.1 70 p = T.1 70 p := by
  unfold rwT at h
  exact ⟨congrArg (fun z : T5 => z.1) h, congrArg (fun z : T5 => z.2.1) h, congrArg (fun z : T5 => z.2.2.1) h, congrArg (fun z : T5 => z.2.2.2.1) h, congrArg (fun z : T5 => z.2.2.2.2) h⟩
theorem us_mono (hg : Tg T) (hg' : Tg T') (hc : cn T ≤ cn T') (hr : ∀ p, p < cn T → rwT T' p = rwT T p) (hx : tV T x) (h : usB T' x = true) : usB T x = true := by
  rcases hx with rfl | ⟨p, rfl, h1, h2⟩
  · unfold usB at h
    simp at h
  · have t := tf_row hg h2
    have t' := tf_row hg' (Nat.lt_of_lt_of_le h2 hc)
    have r := row5 (hr p h2)
    unfold usB at h ⊢
    rw [t.1, t.2.1, t.2.2.1, t.2.2.2.1, t.2.2.2.2]
    rw [t'.1, t'.2.1, t'.2.2.1, t'.2.2.2.1, t'.2.2.2.2, r.1, r.2.1, r.2.2.1, r.2.2.2.1, r.2.2.2.2] at h
    rw [Bool.and_eq_true, Bool.and_eq_true] at h ⊢
    exact ⟨h.1, h.2.1, decide_eq_true (knF_mono hg hg' hc hr (of_decide_eq_true h.2.2))⟩
/-- vars as they were, a list that only grew -/
theorem psi_mono (hg : Tg T) (hg' : Tg T') (hc : cn T ≤ cn T') (hr : ∀ p, p < cn T → rwT T' p = rwT T p) (hv : Vv T) (h80 : ∀ v, v < vn T' → T'.1 80 v = T.1 80 v) (hn : vn T' ≤ vn T) : psi T' ≤ psi T := by
  unfold psi
  refine Nat.le_trans (cnt_mono (vn T') (fun v h1 h2 => ?_)) (cnt_up (vn T) hn)
  rw [h80 v h1] at h2
  exact us_mono hg hg' hc hr (hv v (by omega)) h2
theorem psi_fe (hF : FE T T') (hg : Tg T) (hv : Vv T) (hc : cn T' < 6000) : psi T' ≤ psi T := by
  have t := hF.2.2.1 hg
  have en : vn T' = vn T := hF.evn
  exact psi_mono hg t.1 t.2.1 (t.2.2 hc) hv (fun v _ => by rw [hF.1 80 (by omega)]) (by rw [en]; exact Nat.le_refl _)
theorem Vv.fe (hv : Vv T) (hF : FE T T') (hg : Tg T) : Vv T' := by
  intro v h
  rw [hF.evn] at h
  rw [hF.1 80 (by omega)]
  exact (hv v h).fe hF hg
theorem pot_ov (h : ¬ cn T < 6000) : pot T = 12000 := by unfold pot; rw [if_neg h]
theorem pot_lt (h : cn T < 6000) : pot T = 2 * (cn T + psi T) := by unfold pot; rw [if_pos h]
theorem pot_add (hF : FE T T') (hg : Tg T) (hv : Vv T) (hc : cn T < 6000) (hk : cn T' ≤ cn T + k) : pot T' ≤ pot T + 2 * k := by
  rw [pot_lt hc]
  by_cases c : cn T' < 6000
  · rw [pot_lt c]
    have := psi_fe hF hg hv c
    omega
  · rw [pot_ov c]; omega
theorem pot_o2 (hF : FE T T') (hg : Tg T) (hc : ¬ cn T < 6000) : pot T' = pot T := by
  have := (hF.2.2.1 hg).2.1
  rw [pot_ov hc, pot_ov (by omega)]
theorem nI_gt {m : Nat} (h1 : 1 ≤ m) (h2 : m < 100000) : (0 : Int32) < nI m := nI_lt (a := 0) (b := m) (by omega) (by omega)
theorem cn_kn1 (hg : Tg T) : cn (knS T z) ≤ cn T + 1 := by
  unfold knS
  split
  · split
    · rename_i h; rw [cn_ad h]; exact Nat.le_refl _
    · rename_i h
      have : cn (sI T 65 0 6001) = 6001 := by unfold cn; rw [rdI, if_pos ⟨rfl, rfl⟩]; rfl
      rw [this]
      omega
  · omega
theorem ch_cn : ∀ (f : Nat) (T : gSt) (x : Int32), Tg T → cn (chT f T x w).2 ≤ cn T + dpt T f x := by
  intro f
  induction f with
  | zero => intro T x _; exact Nat.le_refl _
  | succ f ih =>
    intro T x hg
    rw [chT, dpt]
    by_cases hx : 0 < x
    · rw [if_pos hx, if_pos hx]
      by_cases h9 : 0 ≤ T.1 69 x.toNatClampNeg
      · rw [if_pos h9, if_pos h9]
        exact cn_kn1 hg
      · rw [if_neg h9, if_neg h9]
        have i := ih T (T.1 68 x.toNatClampNeg) hg
        have g1 := (FE.ch (w := w) f T (T.1 68 x.toNatClampNeg)).tg hg
        have := cn_kn1 (z := (T.1 66 x.toNatClampNeg, chP w (T.1 67 x.toNatClampNeg), (chT f T (T.1 68 x.toNatClampNeg) w).1, -1, 0)) g1
        show cn (knS (chT f T (T.1 68 x.toNatClampNeg) w).2 _) ≤ _
        omega
    · rw [if_neg hx, if_neg hx]
      exact Nat.le_refl _
theorem dpt_mono : ∀ (f : Nat) (x : Int32), dpt T f x ≤ dpt T (f + 1) x := by
  intro f
  induction f with
  | zero => intro x; rw [dpt]; exact Nat.zero_le _
  | succ f ih =>
    intro x
    rw [dpt, dpt]
    split
    · split
      · exact Nat.le_refl _
      · exact Nat.add_le_add_left (ih _) 1
    · exact Nat.le_refl _
/-- depth reads rows alone -/
theorem dpt_up (hg : Tg T) (hR : Rws T) (hr : ∀ p, p < cn T → rwT T' p = rwT T p) : ∀ (f : Nat) (x : Int32), tV T x → dpt T' f x = dpt T f x := by
  intro f
  induction f with
  | zero => intro x _; rfl
  | succ f ih =>
    intro x hx
    rcases hx with rfl | ⟨p, rfl, h1, h2⟩
    · rw [dpt, dpt, if_neg (by decide), if_neg (by decide)]
    · have b := hg.2.2
      have cp : (nI p).toNatClampNeg = p := nc (by omega)
      have r := row5 (hr p h2)
      rw [dpt, dpt, cp, r.2.2.2.1, r.2.2.1]
      by_cases h9 : 0 ≤ T.1 69 p
      · rw [if_pos h9, if_pos h9]
      · rw [if_neg h9, if_neg h9]
        have o := (hR p h1 h2).2.2.2.2
        change (if 0 ≤ T.1 69 p then ∃ t, T.1 69 p = nI t ∧ t < inn T else T.1 68 p = 0 ∨ ∃ q, T.1 68 p = nI q ∧ 1 ≤ q ∧ q < p) at o
        rw [if_neg h9] at o
        rw [ih _ (o.elim Or.inl (fun ⟨q, a, b, c⟩ => Or.inr ⟨q, a, b, by omega⟩))]
theorem dpt_fe (hF : FE T T') (hg : Tg T) (hR : Rws T) (hc : cn T' < 6000) (hx : tV T x) : dpt T' f x = dpt T f x := dpt_up hg hR ((hF.2.2.1 hg).2.2 hc) f x hx
/-- a type told with other regions is as deep -/
theorem ch_dp (hw : PK w 3) : ∀ (f : Nat) (T : gSt) (x : Int32), Tg T → Rws T → tV T x → dOk T f x → cn (chT f T x w).2 < 6000 → dpt (chT f T x w).2 f (chT f T x w).1 = dpt T f x := by
  intro f
  induction f with
  | zero => intro T x _ _ _ _ _; rfl
  | succ f ih =>
    intro T x hg hr hv hd hc
    have full := ch_ok hw (f + 1) T x hg hr hv hd hc
    rw [chT] at hc ⊢
    by_cases hx : 0 < x
    · simp only [if_pos hx] at hc ⊢
      obtain ⟨p, rfl, d1, d2, d3⟩ := hd hx
      have cp : (nI p).toNatClampNeg = p := nc (by omega)
      have hp1 : 1 ≤ p := by
        refine Nat.pos_of_ne_zero (fun e => ?_)
        subst e
        exact absurd hx (by decide)
      rw [dpt.eq_2 (T := T), if_pos hx]
      simp only [cp] at hc ⊢
      have ro := hr p hp1 d2
      obtain ⟨o1, o2, o3, o4, o5⟩ := ro
      change T.1 66 p = 1 ∨ T.1 66 p = 2 ∨ T.1 66 p = 3 at o1
      change rC2 (T.1 67 p) at o2
      change PK (T.1 70 p) 3 at o3
      change T.1 66 p = 3 → ¬ 0 ≤ T.1 69 p at o4
      change (if 0 ≤ T.1 69 p then ∃ t, T.1 69 p = nI t ∧ t < inn T else T.1 68 p = 0 ∨ ∃ q, T.1 68 p = nI q ∧ 1 ≤ q ∧ q < p) at o5
      by_cases h9 : 0 ≤ T.1 69 p
      · simp only [if_pos h9] at hc d3 o5 ⊢
        obtain ⟨t, rr, t1, t2, t3, t4⟩ := d3
        have e1 : (T.1 15 (T.1 69 p).toNatClampNeg).toNatClampNeg = rr := by rw [t1, nc (by omega), t3, nc (by omega)]
        have k1 := Rws.kn hg hr (z := (T.1 66 p, chP w (T.1 67 p), -1, T.1 69 p, chW w (T.1 70 p) (T.1 15 (T.1 69 p).toNatClampNeg).toNatClampNeg 0 0)) ⟨o1, chP_ok o2 hw, by rw [e1]; exact chW_ok hw o3 rr 0 0 (by omega) PK.zr, o4, by show (if 0 ≤ T.1 69 p then _ else _); rw [if_pos h9]; exact o5⟩ hc
        obtain ⟨k2, q, k3, k4, k5, k6⟩ := k1
        have r := rwT_g k6
        rw [k3, dpt, nc (by omega), if_pos (nI_gt (by omega) (by omega)), r.2.2.2.1, if_pos h9]
      · simp only [if_neg h9] at hc d3 o5 ⊢
        have v1 : tV T (T.1 68 p) := by
          rcases o5 with o5 | ⟨q, o6, o7, o8⟩
          · exact Or.inl o5
          · exact Or.inr ⟨q, o6, o7, by omega⟩
        have fe := FE.ch (w := w) f T (T.1 68 p)
        have g1 := fe.tg hg
        have c1 := kn_lt g1 hc
        have i1 := ch_ok hw f T (T.1 68 p) hg hr v1 d3 c1
        have i2 := ih T (T.1 68 p) hg hr v1 d3 c1
        have k1 := Rws.kn g1 i1.1 (z := (T.1 66 p, chP w (T.1 67 p), (chT f T (T.1 68 p) w).1, -1, 0)) ⟨o1, chP_ok o2 hw, PK.zr.up, fun _ => (by decide : ¬ (0 : Int32) ≤ -1), by
          show (if (0 : Int32) ≤ -1 then _ else _)
          rw [if_neg (by decide)]
          exact i1.2⟩ hc
        obtain ⟨k2, q, k3, k4, k5, k6⟩ := k1
        have r := rwT_g k6
        have feK : FE (chT f T (T.1 68 p) w).2 (knS (chT f T (T.1 68 p) w).2 (T.1 66 p, chP w (T.1 67 p), (chT f T (T.1 68 p) w).1, -1, 0)) := FE.kn
        rw [k3, dpt, nc (by omega), if_pos (nI_gt (by omega) (by omega)), r.2.2.2.1, if_neg (show ¬ (0 : Int32) ≤ -1 from by decide), r.2.2.1]
        show 1 + dpt _ f (chT f T (T.1 68 p) w).1 = _
        rw [dpt_fe feK g1 i1.1 hc i1.2, i2]
    · simp only [if_neg hx]
/-- told with other regions, a type that was there made no row -/
theorem ch_low (hw : PK w 3) : ∀ (f : Nat) (T : gSt) (x : Int32) (q : Nat), Tg T → Rws T → tV T x → dOk T f x → cn (chT f T x w).2 < 6000 → (chT f T x w).1 = nI q → q < cn T → (chT f T x w).2 = T := by
  intro f
  induction f with
  | zero => intro T x q _ _ _ _ _ _ _; rfl
  | succ f ih =>
    intro T x q hg hr hv hd hc he hq
    rw [chT] at hc he ⊢
    by_cases hx : 0 < x
    · simp only [if_pos hx] at hc he ⊢
      obtain ⟨p, rfl, d1, d2, d3⟩ := hd hx
      have cp : (nI p).toNatClampNeg = p := nc (by omega)
      have hp1 : 1 ≤ p := by
        refine Nat.pos_of_ne_zero (fun e => ?_)
        subst e
        exact absurd hx (by decide)
      simp only [cp] at hc he ⊢
      have b := hg.2.2
      have new : ∀ (S : gSt) (z : T5), Tg S → cn T ≤ cn S → cn (knS S z) < 6000 → knR S z = nI q → knS S z = S := by
        intro S z gS cS c2 e2
        unfold knR at e2
        unfold knS
        by_cases c : knF S z = -1
        · rw [if_pos c, gS.1] at e2
          have := gS.2.2
          have := nI_inj (by omega) (by omega) e2
          omega
        · rw [if_neg c]
      by_cases h9 : 0 ≤ T.1 69 p
      · simp only [if_pos h9] at hc he ⊢
        exact new T _ hg (Nat.le_refl _) hc he
      · simp only [if_neg h9] at hc he d3 ⊢
        have o5 := (hr p hp1 d2).2.2.2.2
        change (if 0 ≤ T.1 69 p then ∃ t, T.1 69 p = nI t ∧ t < inn T else T.1 68 p = 0 ∨ ∃ q, T.1 68 p = nI q ∧ 1 ≤ q ∧ q < p) at o5
        rw [if_neg h9] at o5
        have v1 : tV T (T.1 68 p) := by
          rcases o5 with o5 | ⟨q, o6, o7, o8⟩
          · exact Or.inl o5
          · exact Or.inr ⟨q, o6, o7, by omega⟩
        have fe := FE.ch (w := w) f T (T.1 68 p)
        have g1 := fe.tg hg
        have c1 := kn_lt g1 hc
        have i1 := ch_ok hw f T (T.1 68 p) hg hr v1 d3 c1
        have st := new _ _ g1 (fe.2.2.1 hg).2.1 hc he
        rw [st]
        -- the row that was found tells what is inside
        have hf : ¬ knF (chT f T (T.1 68 p) w).2 (T.1 66 p, chP w (T.1 67 p), (chT f T (T.1 68 p) w).1, -1, 0) = -1 := by
          intro c
          unfold knR at he
          rw [if_pos c, g1.1] at he
          have := g1.2.2
          have := nI_inj (by omega) (by omega) he
          have := (fe.2.2.1 hg).2.1
          omega
        have hrow : rwT (chT f T (T.1 68 p) w).2 q = (T.1 66 p, chP w (T.1 67 p), (chT f T (T.1 68 p) w).1, -1, 0) ∧ 1 ≤ q := by
          unfold knR at he
          rw [if_neg hf] at he
          unfold knF at he hf
          rcases ff_val (p := eqT (chT f T (T.1 68 p) w).2 (T.1 66 p, chP w (T.1 67 p), (chT f T (T.1 68 p) w).1, -1, 0)) (k := cn (chT f T (T.1 68 p) w).2 - 1) (i := 1) with hv2 | ⟨j, b1, b2, b3, b4⟩
          · exact absurd hv2 hf
          · have g2 := g1.2.2
            have e3 : j = q := nI_inj (by omega) (by omega) (b4.symm.trans he)
            subst e3
            exact ⟨by unfold eqT at b3; exact of_decide_eq_true b3, b1⟩
        have rT := (fe.2.2.1 hg).2.2 c1 q hq
        rw [hrow.1] at rT
        have r68 : T.1 68 q = (chT f T (T.1 68 p) w).1 := (congrArg (fun z : T5 => z.2.2.1) rT).symm
        have r69 : T.1 69 q = -1 := (congrArg (fun z : T5 => z.2.2.2.1) rT).symm
        have oq := (hr q hrow.2 hq).2.2.2.2
        change (if 0 ≤ T.1 69 q then ∃ t, T.1 69 q = nI t ∧ t < inn T else T.1 68 q = 0 ∨ ∃ q', T.1 68 q = nI q' ∧ 1 ≤ q' ∧ q' < q) at oq
        rw [r69, if_neg (by decide), r68] at oq
        rcases oq with z | ⟨q', z1, z2, z3⟩
        · exact ih T (T.1 68 p) 0 hg hr v1 d3 c1 z (by have := hg.2.1; omega)
        · exact ih T (T.1 68 p) q' hg hr v1 d3 c1 z1 (by omega)
    · simp only [if_neg hx]
end RM1
