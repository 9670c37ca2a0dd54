/-! both machines: instructions of an EXPR, VARS and pointers -/
section XE1
variable {M0 T0 Sf S Sh : gSt} {G G' : GH} {D D' : Nat → (Nat → AV) × Nat} {nf d d' nb nb' mk mk' na na' ng ng' e bs ph bt rb tb ie en hb k q u s i j c t h P W Dp n m it n1 : Nat} {rg rg' : Nat → Nat} {ρ : Nat → Nat} {va : Nat → AV} {M M' T T' : gSt} {v : AV} {x a b cc ee op y z w : Int32} {st s0 st' : List Int32} {ov o0 ov' : List AV} {hs : List HD} {F : FRM} {Fr : Nat → FRM} {f : Nat → Int32} {jj : T5} {r1 : Int32} {l1 : Int64} {tg : List Nat}
theorem VT_k (hk : k = 1 ∨ k = 2) {r : Nat} : VT G nb rg na ng v (k :: r :: tg) ↔ (k = 2 ∧ v = ((0 : Int32), (0 : Nat), (0 : Nat))) ∨ (v.2.2 = 0 ∧ 1 ≤ v.2.1 ∧ v.2.1 ≤ nb ∧ ot rg na ng (gHm G v.2.1) r ∧ tgO G v.2.1 v.1 tg) := by
  have e : (k :: r :: tg).headD 0 = k := rfl
  unfold VT
  rw [e, if_neg (by omega), if_neg (by omega)]
  exact Iff.rfl
theorem VT_3 {r : Nat} : VT G nb rg na ng v (3 :: r :: tg) ↔ (v.2.2 = 1 ∨ (1 < v.2.2 ∧ 1 ≤ v.2.1 ∧ v.2.1 ≤ nb ∧ gPl G v.2.1 + 1 = v.2.2 ∧ gUn G v.2.1 = 0 ∧ gTi G v.2.1 = [] ∧ ot rg na ng (gHm G v.2.1) r ∧ ∀ p, p < gPl G v.2.1 → tg = 0 :: gTy G v.2.1 p)) := by
  have e : (3 :: r :: tg).headD 0 = 3 := rfl
  unfold VT
  rw [e, if_neg (by omega), if_pos rfl]
  exact Iff.rfl
/-- what a pointer type tells of its target -/
def tgt (Sf : gSt) (ρ : Nat → Nat) (p : Nat) : List Nat := if Sf.1 69 p < 0 then 0 :: gty Sf ρ (Sf.1 68 p) else 1 :: (Sf.1 69 p).toNatClampNeg :: (List.range (Sf.1 15 (Sf.1 69 p).toNatClampNeg).toNatClampNeg).map (fun k => ρ (ptOf (Sf.1 70 p) (nI k)).toNatClampNeg)
theorem gty_t (hR : Rws Sf) (hc : cn Sf ≤ 6000) {p : Nat} (hp : rowP Sf x p) : gty Sf ρ x = (Sf.1 66 p).toNatClampNeg :: ρ (Sf.1 67 p).toNatClampNeg :: tgt Sf ρ p := by
  rw [hp.1, gty_p hR hp.2.1 hp.2.2 hc]
  rfl
/-- a value of a pointer type -/
theorem VTs_p (hR : Rws Sf) (hc : cn Sf ≤ 6000) {p : Nat} (hp : rowP Sf x p) (hk : Sf.1 66 p = 1 ∨ Sf.1 66 p = 2) : VTs Sf G nb rg na ng ρ v x ↔ (Sf.1 66 p = 2 ∧ v = ((0 : Int32), (0 : Nat), (0 : Nat))) ∨ (v.2.2 = 0 ∧ 1 ≤ v.2.1 ∧ v.2.1 ≤ nb ∧ ot rg na ng (gHm G v.2.1) (ρ (Sf.1 67 p).toNatClampNeg) ∧ tgO G v.2.1 v.1 (tgt Sf ρ p)) := by
  unfold VTs
  rw [if_neg (hp.n2 hc), gty_t hR hc hp]
  rcases hk with e | e
  · rw [e, show (1 : Int32).toNatClampNeg = 1 from rfl, VT_k (Or.inl rfl)]
    constructor
    · rintro (⟨w, _⟩ | w)
      · exact absurd w (by decide)
      · exact Or.inr w
    · rintro (⟨w, _⟩ | w)
      · exact absurd w (by decide)
      · exact Or.inr w
  · rw [e, show (2 : Int32).toNatClampNeg = 2 from rfl, VT_k (Or.inr rfl)]
    constructor
    · rintro (⟨_, w⟩ | w)
      · exact Or.inl ⟨rfl, w⟩
      · exact Or.inr w
    · rintro (⟨_, w⟩ | w)
      · exact Or.inl ⟨rfl, w⟩
      · exact Or.inr w
theorem VTs_r (hR : Rws Sf) (hc : cn Sf ≤ 6000) {p : Nat} (hp : rowP Sf x p) (hk : Sf.1 66 p = 3) : VTs Sf G nb rg na ng ρ v x ↔ (v.2.2 = 1 ∨ (1 < v.2.2 ∧ 1 ≤ v.2.1 ∧ v.2.1 ≤ nb ∧ gPl G v.2.1 + 1 = v.2.2 ∧ gUn G v.2.1 = 0 ∧ gTi G v.2.1 = [] ∧ ot rg na ng (gHm G v.2.1) (ρ (Sf.1 67 p).toNatClampNeg) ∧ ∀ q, q < gPl G v.2.1 → tgt Sf ρ p = 0 :: gTy G v.2.1 q)) := by
  unfold VTs
  rw [if_neg (hp.n2 hc), gty_t hR hc hp, hk, show (3 : Int32).toNatClampNeg = 3 from rfl]
  exact VT_3
theorem tgt_eq {p q : Nat} (h1 : Sf.1 68 p = Sf.1 68 q) (h2 : Sf.1 69 p = Sf.1 69 q) (h3 : Sf.1 70 p = Sf.1 70 q) : tgt Sf ρ p = tgt Sf ρ q := by
  unfold tgt
  rw [h1, h2, h3]
theorem CW_p (h1 : v.2.2 = 0) (h2 : 1 ≤ v.2.1) : CW G v i = nI (gAd G v.2.1 + (if gUn G v.2.1 = 0 then gWo G v.2.1 v.1.toNatClampNeg else 0) + 1) := by
  unfold CW
  rw [if_pos h1, if_neg (by omega)]
theorem wv_0 (h : v.2.2 = 0) : wv v = 1 := if_pos h
theorem slF_u (hV : VwS Sf S) (hu : u < vn S) (hs : S.1 79 u = nI s) : slF S (nI s) = nI (slV Sf S u) := by
  obtain ⟨a1, a2, a3, a4, a5⟩ := hV
  unfold slF
  rcases ff_val (p := isSl S (nI s)) (k := vn S) (i := 0) with w | ⟨j, j1, j2, j3, j4⟩
  · exfalso
    have := (ff_all (by omega)).mp w u (by omega) (by omega)
    unfold isSl at this
    exact this (decide_eq_true hs)
  · unfold isSl at j3
    have e := of_decide_eq_true j3
    have : j = u := a3 j u (by omega) hu (by rw [e, hs])
    rw [j4, nc (by omega), this, a5 u (by omega)]
theorem xe_2 (cx : CxP M0 T0 Sf) (h : Sim M0 T0 Sf G D nb mk rg na ng P W Fr Dp M T) (rn : RnO M T) (hn : fn (Fr Dp) = n) (hm : fm (Fr Dp) = m) (hn2 : n < 12000) (h51 : T0.1 51 0 = nI n1) (hm2 : m < n1) (h6 : n1 ≤ 6032) (hR : rOk M0 jj n) (hK : KrO (RgE (eN Sf (fit (Fr Dp))) (fS (Fr Dp))) (slF (fS (Fr Dp))) Sf T0 jj m) (hty : tyJ Sf (fS (Fr Dp)) jj (fst' (Fr Dp)) st') (hI : IvP Sf (fit (Fr Dp)) (fS (Fr Dp)) st' (fhs (Fr Dp))) (hnf : 16385 ≤ nf) (hd : 20 ≤ d) (hd' : 20 ≤ d') (hj : jj.1 = 2) : ExQ nf d d' M0 T0 Sf P W mk rg na ng Fr Dp M T st' (n + 1) (m + 1) := by
  rw [tyJ_2 hj] at hty
  subst hty
  obtain ⟨w1, w2, w3, w4, w5, w6, w7, w8, w9⟩ := h.rw (n := n) (m := m)
  obtain ⟨b1, b2, b3, b4, b5⟩ := h.bd
  obtain ⟨fr, iv⟩ := h.fr
  have hc6 : cn Sf ≤ 6000 := by have := cx.2.1; omega
  have rowR := rO_n hR (by rw [hj]; decide)
  unfold rB at rowR
  rw [hj, if_neg (by decide), if_neg (by decide), if_neg (by decide), if_neg (by decide), if_neg (by decide), if_neg (by decide)] at rowR
  unfold KrO at hK
  rw [hj, if_neg (by decide), if_pos (by decide)] at hK
  refine ex_go (v := ((0 : Int32), (0 : Nat), (0 : Nat))) (f := fun _ => 0) (st := []) (s0 := fst' (Fr Dp)) cx h rn hn hm hn2 h51 hm2 h6 rowR (by decide) hK (by decide) rfl hI VTs_n RV_0 (fun i _ => CW_0.symm) (x_r2 (by rw [tp_102 (by omega)]; exact w6) (by omega) (by omega)) ?_
  rw [dC_203 (by decide), c_pushI (t := fbs (Fr Dp) + 80 + wsl Sf (fst' (Fr Dp))) (by rw [tp_105 (by omega)]; exact w7) (by omega) (by omega), ps_stW]
  rfl
theorem xe_4 (cx : CxP M0 T0 Sf) (h : Sim M0 T0 Sf G D nb mk rg na ng P W Fr Dp M T) (rn : RnO M T) (hn : fn (Fr Dp) = n) (hm : fm (Fr Dp) = m) (hn2 : n < 12000) (h51 : T0.1 51 0 = nI n1) (hm2 : m < n1) (h6 : n1 ≤ 6032) (hR : rOk M0 jj n) (hK : KrO (RgE (eN Sf (fit (Fr Dp))) (fS (Fr Dp))) (slF (fS (Fr Dp))) Sf T0 jj m) (hty : tyJ Sf (fS (Fr Dp)) jj (fst' (Fr Dp)) st') (hI : IvP Sf (fit (Fr Dp)) (fS (Fr Dp)) st' (fhs (Fr Dp))) (hnf : 16385 ≤ nf) (hd : 20 ≤ d) (hd' : 20 ≤ d') (hj : jj.1 = 4) : ExQ nf d d' M0 T0 Sf P W mk rg na ng Fr Dp M T st' (n + 1) (m + 1) := by
  rw [tyJ_4 hj] at hty
  obtain ⟨e1, e2, e3⟩ := hty
  subst e1
  obtain ⟨w1, w2, w3, w4, w5, w6, w7, w8, w9⟩ := h.rw (n := n) (m := m)
  obtain ⟨b1, b2, b3, b4, b5⟩ := h.bd
  obtain ⟨fr, iv⟩ := h.fr
  have hc6 : cn Sf ≤ 6000 := by have := cx.2.1; omega
  have rowR := rO_n hR (by rw [hj]; decide)
  unfold rB at rowR
  rw [hj, if_neg (by decide), if_neg (by decide), if_neg (by decide), if_neg (by decide), if_neg (by decide), if_neg (by decide)] at rowR
  unfold KrO at hK
  rw [hj, if_neg (by decide), if_neg (by decide), if_neg (by decide), if_pos (by decide)] at hK
  obtain ⟨c, c1, c2, c3⟩ := fr.2.2.2.1
  have hc1 : 1 ≤ c := by
    refine Nat.pos_of_ne_zero (fun z => e3 ?_)
    rw [c1, z]
    rfl
  rw [e2, c1] at rowR
  have ex : (60 : Int32) + jj.2.1 - 1 = nI (60 + (c - 1)) := by
    rw [e2, c1, show (60 : Int32) = nI 60 from rfl, show nI 60 + nI c = nI (60 + c) from (Int32.ofNat_add _ _).symm, show 60 + c = 60 + (c - 1) + 1 by omega, nI_sub]
  rw [ex] at hK
  refine ex_go (p3 := 0) (p4 := 0) (v := (M.1 122 (40 * Dp + c), 0, 0)) (f := fun i => (sI T 105 0 (nI (m + 1))).1 99 (fbs (Fr Dp) + (60 + (c - 1)) + i)) (st := []) (s0 := fst' (Fr Dp)) cx h rn hn hm hn2 h51 hm2 h6 rowR (by decide) hK (by decide) rfl hI VTs_0 RV_0 (fun i hi => ?_) ?_ ?_
  · have i0 : i = 0 := by
      have : wv ((M.1 122 (40 * Dp + c), 0, 0) : AV) = 1 := rfl
      omega
    rw [i0, CW_0, tp_105 (by omega), Nat.add_zero, ← Nat.add_assoc]
    exact c3 c hc1 (Nat.le_refl _)
  · rw [x_r4 (e := Dp) (c := c) (h := fph (Fr Dp) + (fst' (Fr Dp)).length) (by rw [tp_102 (by omega)]; exact w6) (by omega) (by rw [tp_102 (by omega)]; exact w8) b5 (by omega) (by omega), tp_102 (by omega)]
  · rw [dC_203 (by decide), show (1 : Int32) = nI 1 from rfl, c_load (t := fbs (Fr Dp) + 80 + wsl Sf (fst' (Fr Dp))) (b := fbs (Fr Dp)) (c := Dp + 1) (s := 60 + (c - 1)) (n := 1) (by rw [tp_105 (by omega)]; exact w7) (by rw [tp_105 (by omega)]; exact w9) (by omega) (by rw [tp_105 (by omega)]; exact fr.2.2.2.2.2.1) (by omega) (by omega) (by omega) (by omega) (by omega)]
    rfl
theorem xe_5 (cx : CxP M0 T0 Sf) (h : Sim M0 T0 Sf G D nb mk rg na ng P W Fr Dp M T) (rn : RnO M T) (hn : fn (Fr Dp) = n) (hm : fm (Fr Dp) = m) (hn2 : n < 12000) (h51 : T0.1 51 0 = nI n1) (hm2 : m < n1) (h6 : n1 ≤ 6032) (hR : rOk M0 jj n) (hK : KrO (RgE (eN Sf (fit (Fr Dp))) (fS (Fr Dp))) (slF (fS (Fr Dp))) Sf T0 jj m) (hty : tyJ Sf (fS (Fr Dp)) jj (fst' (Fr Dp)) st') (hI : IvP Sf (fit (Fr Dp)) (fS (Fr Dp)) st' (fhs (Fr Dp))) (hnf : 16385 ≤ nf) (hd : 20 ≤ d) (hd' : 20 ≤ d') (hj : jj.1 = 5) : ExQ nf d d' M0 T0 Sf P W mk rg na ng Fr Dp M T st' (n + 1) (m + 1) := by
  rw [tyJ_5 hj] at hty
  obtain ⟨e1, u, s, hva, e2, e3⟩ := hty
  subst e1
  obtain ⟨w1, w2, w3, w4, w5, w6, w7, w8, w9⟩ := h.rw (n := n) (m := m)
  obtain ⟨b1, b2, b3, b4, b5⟩ := h.bd
  obtain ⟨fr, iv⟩ := h.fr
  have hc6 : cn Sf ≤ 6000 := by have := cx.2.1; omega
  have rowR := rO_n hR (by rw [hj]; decide)
  unfold rB at rowR
  rw [hj, if_neg (by decide), if_neg (by decide), if_neg (by decide), if_neg (by decide), if_neg (by decide), if_neg (by decide)] at rowR
  unfold KrO at hK
  rw [hj, if_neg (by decide), if_neg (by decide), if_neg (by decide), if_neg (by decide), if_pos (by decide)] at hK
  obtain ⟨c, k1, k2⟩ := hK
  rw [e2] at rowR k2
  rw [slF_u iv.1 hva.1 hva.2.1] at k2
  obtain ⟨v1, v2, v3, v4⟩ := fr.1 u s hva
  have tvx := hI.2.2.2.1 _ List.mem_cons_self
  have vty : VTs Sf G nb rg na ng (fρ (Fr Dp)) (fva (Fr Dp) s) jj.2.2.1 := by
    rcases e3 with e | ⟨e, p, hp, hk, q, hq, hz⟩
    · have tv := (iv.1.2.2.2.1 u hva.1).1
      unfold VTs
      rw [e, if_neg (fun w => by
        rcases tv.row with z | ⟨p, hp⟩
        · rw [z] at w; exact absurd w (by decide)
        · exact hp.n2 hc6 w)]
      exact v1
    · have n2 := v4 e ⟨p, hp, hk⟩
      have v1' : VTs Sf G nb rg na ng (fρ (Fr Dp)) (fva (Fr Dp) s) ((fS (Fr Dp)).1 80 u) := by
        unfold VTs
        rw [if_neg (hp.n2 hc6)]
        exact v1
      obtain ⟨z1, z2, z3, z4, z5⟩ := rwT_g hz
      rw [VTs_p cx.1 hc6 hp (Or.inr hk)] at v1'
      rw [VTs_p cx.1 hc6 hq (Or.inl z1)]
      rcases v1' with ⟨_, w⟩ | ⟨a1, a2, a3, a4, a5⟩
      · rw [w] at n2
        exact absurd n2 (by decide)
      · refine Or.inr ⟨a1, a2, a3, by rw [z2]; exact a4, ?_⟩
        rw [tgt_eq (p := q) (q := p) z3 z4 z5]
        exact a5
  have wi := VTs.wi cx.1 hc6 (tvx.imp id (fun w => w.1)) vty
  have ec : c = nI (wv (fva (Fr Dp) s)) := by
    rw [wd_w k1, wi, if_neg]
    rcases tvx with z | z
    · rw [z]; decide
    · exact tV_n1 z.1 hc6
  have w3 := wv_3 (v := fva (Fr Dp) s)
  have sl := slV_le (Sf := Sf) (S := fS (Fr Dp)) u
  have u20 := hva.2.2.2.2
  have s20 := hva.2.2.1
  rw [ec] at k2
  refine ex_go (v := fva (Fr Dp) s) (f := fun i => (sI T 105 0 (nI (m + 1))).1 99 (fbs (Fr Dp) + slV Sf (fS (Fr Dp)) u + i)) (st := []) (s0 := fst' (Fr Dp)) cx h rn hn hm hn2 h51 hm2 h6 rowR (by decide) k2 (by decide) rfl hI vty v2 (fun i hi => ?_) ?_ ?_
  · rw [tp_105 (by omega)]
    exact v3 i hi
  · rw [x_r5 (e := Dp) (s := s) (h := fph (Fr Dp) + (fst' (Fr Dp)).length) (by rw [tp_102 (by omega)]; exact w6) (by omega) (by rw [tp_102 (by omega)]; exact w8) b5 (by omega) (by omega), tp_102 (by omega), tp_102 (by omega), tp_102 (by omega), tp_102 (by omega)]
  · rw [dC_203 (by decide), c_load (t := fbs (Fr Dp) + 80 + wsl Sf (fst' (Fr Dp))) (b := fbs (Fr Dp)) (c := Dp + 1) (by rw [tp_105 (by omega)]; exact w7) (by rw [tp_105 (by omega)]; exact w9) (by omega) (by rw [tp_105 (by omega)]; exact fr.2.2.2.2.2.1) (by omega) (by omega) (by omega) (by omega) (by omega)]
end XE1
