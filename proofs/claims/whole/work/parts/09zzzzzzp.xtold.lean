/-! told, kept once, is found again -/
/-- types that were live stay -/
def Xt (T T' : gSt) : Prop := EW T' = EW T ∧ ∀ q, q < 16384 → lvK T q → T'.2 62 q = T.2 62 q
section CXP
variable {R : RgR} {S S' S1 T T' T1 T2 : gSt} {X : Lx} {nf d i k n m t e w c a b q g f h r s y z : Nat} {x v x' u : Int32}
theorem Xt.rf : Xt T T := ⟨rfl, fun _ _ _ => rfl⟩
theorem Xt.lv (hh : Xt T T') (hq : q < 16384) (hl : lvK T q) : lvK T' q ∧ SW T' q = SW T q := by
  have e1 : SW T' q = SW T q := by unfold SW; rw [hh.2 q hq hl]
  exact ⟨by unfold lvK; rw [e1, hh.1]; exact hl, e1⟩
theorem Xt.tr (hh : Xt T T1) (h2 : Xt T1 T') : Xt T T' := ⟨h2.1.trans hh.1, fun q a b => (h2.2 q a (hh.lv a b).1).trans (hh.2 q a b)⟩
theorem TyF.xt (hh : TyF S S' T T') : Xt T T' := hh.2.2.2
theorem Xt.tf (hh : Xt T T') : TyF S S T T' := ⟨Nat.le_refl _, fun _ _ _ _ _ _ => rfl, rfl, hh.1, hh.2⟩
theorem Xt.ag (hh : T'.2 62 = T.2 62) (h2 : T'.2 63 = T.2 63) : Xt T T' := ⟨by unfold EW; rw [h2], fun q _ _ => by rw [hh]⟩
theorem KpQ.xt (hh : KpQ T T' s k) : Xt T T' := ⟨hh.2.2.1, hh.2.2.2.2.2.2.1⟩
theorem Xt.ko (hh : Xt T T') (hy : tyY T y) : kO T' y = kO T y := by
  unfold kO
  by_cases c3 : y < 3
  · rw [if_pos (Or.inl c3), if_pos (Or.inl c3)]
  · rcases hy with w | ⟨w, l⟩
    · omega
    · rw [if_neg (by omega), if_neg (by omega), (hh.lv (by omega) l).2]
theorem Xt.kd (hh : Xt T T') (hy : tyY T y) : kdC T' y = kdC T y := by
  unfold kdC
  rw [hh.ko hy]
/-- a key that is kept is found where it is -/
theorem kp_same (hh : KpQ T T' s k) (hx : Xt T' T1) (hI : TyI T1) (h2 : KpQ T1 T2 q k) (hk : k < KM) : T2 = T1 ∧ q = s := by
  have ls : lvK T' s := by
    have := (kyN_lv (T := T') hk).1
    unfold lvK
    rw [hh.2.1]
    exact this
  have o := hx.lv hh.1 ls
  have e1 : SW T1 s = kyN T1 k := by
    rw [o.2, hh.2.1]
    unfold kyN
    rw [hx.1]
  have e2 : T2 = T1 := h2.2.2.2.2.2.2.2.2 ⟨s, hh.1, e1⟩
  subst e2
  exact ⟨rfl, (ky_one hI hh.1 h2.1 o.1 (by rw [e1, h2.2.1])).symm⟩
theorem told_0 (hy : y < 16387) (hd : 3 ≤ d) : PP nf d 98 T [nI y, nI g, nI 7] [] = some (nI y, 0, T) := by
  obtain ⟨d, rfl⟩ : ∃ g, d = g + 1 := ⟨d - 1, by omega⟩
  rw [e_Types_told]
  unfold rb_Types_told
  rw [c_kindOf (by omega) (by omega), bis]
  split
  · rfl
  · rw [if_neg (fun w => by
      have := (nI_leI (a := 7) (b := 6) (by omega) (by omega)).mp w
      omega)]
/-- told, a step of it -/
theorem told_s {dp : Nat} (hnf : 16385 ≤ nf) (hW : WT T) (hk : tyY T y) (hg : g < 4096) (hdp : dp ≤ 6) (hd : 20 ≤ d) : (kdC T y ≤ 2 ∧ PP nf (d + 1) 98 T [nI y, nI g, nI dp] [] = some (nI y, 0, T)) ∨ (kdC T y = 6 ∧ kO T y / 8 % 32 < 24 ∧ kO T y / 8 % 32 < itN T ∧ PP nf (d + 1) 98 T [nI y, nI g, nI dp] [] = bi (PP nf d 89 T [nI (kO T y / 8 % 32), nI (taC g (kO T y / 256 % 4096))] []) fun r _ T' => some (r, 0, T')) ∨ (3 ≤ kdC T y ∧ kdC T y ≤ 5 ∧ tyY T (bhC T y) ∧ PP nf (d + 1) 98 T [nI y, nI g, nI dp] [] = bi (PP nf d 98 T [nI (bhC T y), nI g, nI (dp + 1)] []) fun r1 _ T1 => bi (PP nf d 88 T1 [nI (kdC T y), nI (t1C g (rkC T y)), r1] []) fun r _ T' => some (r, 0, T')) := by
  have hy := hk.lt
  have kl := kdC_lt (T := T) (y := y)
  have ko : kO T y < 16777216 := kO_lt
  have hd6 : nI dp ≤ 6 := (nI_leI (a := dp) (b := 6) (by omega) (by omega)).mpr (by omega)
  rw [e_Types_told]
  unfold rb_Types_told
  rw [c_kindOf (by omega) (by omega), bis]
  have l2 : (nI (kdC T y) ≤ 2) = (kdC T y ≤ 2) := propext (nI_leI (a := kdC T y) (b := 2) (by omega) (by omega))
  have q6 : (nI (kdC T y) = 6) = (kdC T y = 6) := ci_eq (j := 6) (by omega) (by omega)
  simp only [l2, q6, if_pos hd6]
  by_cases c2 : kdC T y ≤ 2
  · rw [if_pos c2]
    exact Or.inl ⟨c2, rfl⟩
  rw [if_neg c2]
  have y3 : ¬ y < 3 := fun w => by unfold kdC at c2; rw [if_pos w] at c2; omega
  have ek : kdC T y = kO T y % 8 := by unfold kdC; rw [if_neg y3]
  have kv : kyV T (kO T y) := by
    rcases kO_v hW hk with h | h
    · exact absurd h y3
    · exact h
  by_cases c6 : kdC T y = 6
  · rw [if_pos c6, c_keyOf (by omega) (by omega), bis, bShr (j := 8) (by decide) (by omega) (by omega), bAnd (j := 12) rfl (by omega), c_toldAll (by omega) (by omega) hg (by omega), bis, bShr (j := 3) (by decide) (by omega) (by omega), bAnd (j := 5) rfl (by omega)]
    rcases kv.2 with h | h
    · exact Or.inr (Or.inl ⟨c6, h.2.1, h.2.2, rfl⟩)
    · omega
  · rw [if_neg c6, c_regionOf (by omega) (by omega), bis]
    have rl : rkC T y < 16 := Nat.mod_lt _ (by omega)
    rcases kv.2 with h | h
    · omega
    · have hb : tyY T (bhC T y) := by unfold bhC; exact h.2.2
      have bl := hb.lt
      rw [c_toldOne rl hg (by omega), bis, c_behind (by omega) (by omega), bis, nI_1]
      exact Or.inr (Or.inr ⟨by omega, by omega, hb, rfl⟩)
theorem told_c (hnf : 16385 ≤ nf) (hg : g < 4096) : ∀ (m dp y d : Nat) (T : gSt), WT T → dp + m = 7 → 1 ≤ dp → tyY T y → lvC T 16384 + m < 16384 → 10 * m + 23 ≤ d → ∃ z T', PP nf d 98 T [nI y, nI g, nI dp] [] = some (nI z, 0, T') ∧ tyY T' z ∧ FtW T T' ∧ Xt T T' ∧ lvC T' 16384 ≤ lvC T 16384 + m ∧ ∀ T1, Xt T' T1 → WT T1 → lvC T1 16384 < 16384 → PP nf d 98 T1 [nI y, nI g, nI dp] [] = some (nI z, 0, T1) := by
  intro m
  induction m with
  | zero =>
    intro dp y d T hW h1 h2 hk hl hd
    have e7 : dp = 7 := by omega
    subst e7
    have hy := hk.lt
    exact ⟨y, T, told_0 hy (by omega), hk, FtW.rf hW, Xt.rf, by omega, fun T1 _ _ _ => told_0 hy (by omega)⟩
  | succ m ih =>
    intro dp y d T hW h1 h2 hk hl hd
    obtain ⟨d, rfl⟩ : ∃ g, d = g + 1 := ⟨d - 1, by omega⟩
    have hy := hk.lt
    have ko : kO T y < 16777216 := kO_lt
    have ekm : KM = 16777216 := rfl
    have at1 : ∀ T1, Xt T T1 → WT T1 → tyY T1 y ∧ kO T1 y = kO T y ∧ kdC T1 y = kdC T y := fun T1 hx hw => ⟨by
      rcases hk with w | ⟨w, l⟩
      · exact Or.inl w
      · by_cases c3 : y < 3
        · exact Or.inl c3
        · exact Or.inr ⟨w, (hx.lv (by omega) l).1⟩, hx.ko hk, hx.kd hk⟩
    rcases told_s (nf := nf) (d := d) (g := g) (dp := dp) hnf hW hk hg (by omega) (by omega) with ⟨c, e⟩ | ⟨c, t1, t2, e⟩ | ⟨c1, c2, c3, e⟩
    · refine ⟨y, T, e, hk, FtW.rf hW, Xt.rf, by omega, fun T1 hx hw hl1 => ?_⟩
      obtain ⟨a1, a2, a3⟩ := at1 T1 hx hw
      rcases told_s (nf := nf) (d := d) (g := g) (dp := dp) hnf hw a1 hg (by omega) (by omega) with ⟨c', e'⟩ | ⟨c', _⟩ | ⟨c', _⟩
      · exact e'
      · omega
      · omega
    · have tl : taC g (kO T y / 256 % 4096) < 4096 := ta_lt (by omega)
      obtain ⟨s, T', p1, p2⟩ := c_thg (nf := nf) (d := d) (T := T) (t := kO T y / 8 % 32) (r := taC g (kO T y / 256 % 4096)) hnf hW.1 (by omega) (by omega) tl (by omega)
      obtain ⟨z, T'', q1, q2, _, q3⟩ := k_thg (nf := nf) (d := d) (T := T) (t := kO T y / 8 % 32) (r := taC g (kO T y / 256 % 4096)) hnf hW t1 t2 tl (by omega)
      rw [p1] at q1
      simp only [Option.some.injEq, Prod.mk.injEq, true_and] at q1
      obtain ⟨z1, rfl⟩ := q1
      have zs : s + 3 = z := nI_inj (by have := p2.1; omega) (by have := q2.lt; omega) z1
      subst zs
      refine ⟨s + 3, T', by rw [e, p1, bis], q2, q3, p2.xt, by have := p2.2.2.2.2.2.2.2.1; omega, fun T1 hx hw hl1 => ?_⟩
      obtain ⟨a1, a2, a3⟩ := at1 T1 (p2.xt.tr hx) hw
      rcases told_s (nf := nf) (d := d) (g := g) (dp := dp) hnf hw a1 hg (by omega) (by omega) with ⟨c', e'⟩ | ⟨c', _, _, e'⟩ | ⟨c', _⟩
      · omega
      · rw [a2] at e'
        obtain ⟨s', T2, p1', p2'⟩ := c_thg (nf := nf) (d := d) (T := T1) (t := kO T y / 8 % 32) (r := taC g (kO T y / 256 % 4096)) hnf hw.1 hl1 (by omega) tl (by omega)
        have := kp_same p2 hx hw.1 p2' (by omega)
        rw [e', p1', bis, this.1, this.2]
      · omega
    · have rl : rkC T y < 16 := Nat.mod_lt _ (by omega)
      have tl : t1C g (rkC T y) < 16 := t1_lt rl
      obtain ⟨zb, Tb, b1, b2, b3, b4, b5, b6⟩ := ih (dp + 1) (bhC T y) d T hW (by omega) (by omega) c3 (by omega) (by omega)
      have zl := b2.lt
      obtain ⟨s, T', p1, p2⟩ := c_ptr (nf := nf) (d := d) (T := Tb) (k := kdC T y) (r := t1C g (rkC T y)) (b := zb) hnf b3.2.2.1.1 (by omega) (by omega) tl (by omega) (by omega)
      obtain ⟨z, T'', q1, q2, _, q3⟩ := k_ptr (nf := nf) (d := d) (T := Tb) (k := kdC T y) (r := t1C g (rkC T y)) (b := zb) hnf b3.2.2.1 c1 c2 tl b2 (by omega)
      rw [p1] at q1
      simp only [Option.some.injEq, Prod.mk.injEq, true_and] at q1
      obtain ⟨z1, rfl⟩ := q1
      have zs : s + 3 = z := nI_inj (by have := p2.1; omega) (by have := q2.lt; omega) z1
      subst zs
      refine ⟨s + 3, T', by rw [e, b1, bis, p1, bis], q2, b3.tr q3, b4.tr p2.xt, by have := p2.2.2.2.2.2.2.2.1; omega, fun T1 hx hw hl1 => ?_⟩
      obtain ⟨a1, a2, a3⟩ := at1 T1 ((b4.tr p2.xt).tr hx) hw
      rcases told_s (nf := nf) (d := d) (g := g) (dp := dp) hnf hw a1 hg (by omega) (by omega) with ⟨c', e'⟩ | ⟨c', _, _, e'⟩ | ⟨c', _, _, e'⟩
      · omega
      · omega
      · have er : rkC T1 y = rkC T y := by unfold rkC; rw [a2]
        have eb : bhC T1 y = bhC T y := by unfold bhC; rw [a2]
        rw [a3, er, eb, b6 T1 (p2.xt.tr hx) hw hl1, bis] at e'
        obtain ⟨s', T2, p1', p2'⟩ := c_ptr (nf := nf) (d := d) (T := T1) (k := kdC T y) (r := t1C g (rkC T y)) (b := zb) hnf hw.1 hl1 (by omega) tl (by omega) (by omega)
        have := kp_same p2 hx hw.1 p2' (by omega)
        rw [e', p1', bis, this.1, this.2]
end CXP
