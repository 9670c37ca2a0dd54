/-! the class's parser: EXPRS -/
def CxE (X : Lx) (T : gSt) (e : Nat) (r : Int32) (T' : gSt) : Prop := Bd X T' e ∧ FC T T' ∧ ∃ x, r = nI x ∧ x < 4008
def CxQ (X : Lx) (T : gSt) (i p md : Nat) (res : ER) (r : Int32) (T' : gSt) : Prop := match res with
  | .ok (t, j) => ∃ p', GC X T' j p' ∧ i < j ∧ p < p' ∧ p' + i ≤ p + j ∧ r = nI p ∧ FC T T' ∧ Nf T T' p ∧ T'.1 14 p = 0 ∧ T'.1 15 p = 0 ∧ (if md = 0 then cRX T' (RcG X T' t) p p' else T'.1 13 p = 0 ∧ cRT T' (RcG X T' t) p p')
  | .error e => CxE X T e r T'
def CmQ (X : Lx) (T : gSt) (i p : Nat) (res : ER) (r : Int32) (T' : gSt) : Prop := match res with
  | .ok (t, j) => ∃ p', GC X T' j p' ∧ i < j ∧ p < p' ∧ p' + i ≤ p + j ∧ r = nI p ∧ FC T T' ∧ Nf T T' p ∧ T'.1 13 p = 0 ∧ T'.1 14 p = 0 ∧ T'.1 15 p = 0 ∧ T'.1 18 p = 0 ∧ RcG X T' t 0 p p' 0
  | .error e => CxE X T e r T'
def CaQ (X : Lx) (T : gSt) (i p : Nat) (res : ER) (r : Int32) (T' : gSt) : Prop := match res with
  | .ok (t, j) => ∃ p', GC X T' j p' ∧ i < j ∧ p ≤ p' ∧ p' + i + 1 ≤ p + j ∧ r = (if isZ t = true then 0 else nI p) ∧ FC T T' ∧ Nf T T' p ∧ RcG X T' t 2 p p' 0
  | .error e => CxE X T e r T'
def pMk (K : Nat → Nat) (G : Nat → ER) (rw : Bool) (i : Nat) : Except Nat (Tr × Tr × Nat) := if K i = 42 then (match G (i + 1) with
  | .error e => .error e
  | .ok (a, j) => if rw = true then (if K j = 47 then (match G (j + 1) with
    | .error e => .error e
    | .ok (b, j2) => if K j2 = 43 then .ok (a, b, j2 + 1) else .error j2) else .error j) else (if K j = 43 then .ok (a, tZ, j + 1) else .error j)) else .error i
def mb (x : Except Nat (Tr × Tr × Nat)) (k : Tr → Tr → Nat → ER) : ER := match x with
  | .error e => .error e
  | .ok (a, b, j) => k a b j
def NfX (T T' : gSt) (p q : Nat) : Prop := ∀ k j, 11 ≤ k → k ≤ 18 → j < p → ¬ (k = 17 ∧ j = q) → T'.1 k j = T.1 k j
def CkQ (X : Lx) (T : gSt) (i p q : Nat) (rw : Bool) (res : Except Nat (Tr × Tr × Nat)) (T' : gSt) : Prop := match res with
  | .ok (a, b, j) => ∃ p', GC X T' j p' ∧ i + 2 < j ∧ p < p' ∧ p' + i + 2 ≤ p + j ∧ FC T T' ∧ NfX T T' p q ∧ T'.1 17 q = nI p ∧ (T'.1 15 p = 0 ∧ (rw = false → T'.1 14 p = 0)) ∧ (if rw = true then ∃ m, p < m ∧ m < p' ∧ cRX T' (RcG X T' a) p m ∧ T'.1 14 p = nI m ∧ cRX T' (RcG X T' b) m p' else cRX T' (RcG X T' a) p p')
  | .error e => Bd X T' e ∧ FC T T'
def CPx (nf : Nat) (X : Lx) (m : Nat) : Prop := ∀ (md : Nat) (T : gSt) (i p d : Nat), md ≤ 1 → GC X T i p → p ≤ i + 2 → 8 * m + 12 ≤ d → wp (PP nf d (if md = 0 then 78 else 80) T [nI (21 - m)] []) (fun r _ T' => CxQ X T i p md (pEx (xK X) m md i) r T')
section CXX
variable {nf d : Nat} {T T' T1 T2 : gSt} {X : Lx} {i j k p p' q m n e c z lo hi : Nat} {x y r : Int32} {t ta tb : Tr} {K : Int32 → Int64 → gSt → gR} {Q : Int32 → Int64 → gSt → Prop}
theorem pmk_1 {G : Nat → ER} {f : Tr → Tr} {Kn : Nat → Nat} : ek Kn 42 i (eb (G (i + 1)) fun a j => ek Kn 43 j (.ok (f a, j + 1))) = mb (pMk Kn G false i) fun a _ j => .ok (f a, j) := by
  unfold ek pMk
  split
  · cases G (i + 1) with
    | error e => rfl
    | ok y =>
      obtain ⟨a, j⟩ := y
      show (if Kn j = 43 then _ else _) = _
      dsimp only
      rw [if_neg (show ¬ (false = true) by decide)]
      split <;> rfl
  · rfl
theorem pmk_2 {G : Nat → ER} {f : Tr → Tr → Tr} {Kn : Nat → Nat} : ek Kn 42 i (eb (G (i + 1)) fun a j => ek Kn 47 j (eb (G (j + 1)) fun b j2 => ek Kn 43 j2 (.ok (f a b, j2 + 1)))) = mb (pMk Kn G true i) fun a b j => .ok (f a b, j) := by
  unfold ek pMk
  split
  · cases G (i + 1) with
    | error e => rfl
    | ok y =>
      obtain ⟨a, j⟩ := y
      show (if Kn j = 47 then _ else _) = _
      dsimp only
      rw [if_pos rfl]
      split
      · cases G (j + 1) with
        | error e => rfl
        | ok y =>
          obtain ⟨b, j2⟩ := y
          show (if Kn j2 = 43 then _ else _) = _
          dsimp only
          split <;> rfl
      · rfl
  · rfl
theorem cRX.ag (h : cRX T (RcG X T t) lo hi) (hA : AgN T T' (fun g j => (g = 14 ∨ g = 15) ∧ j = lo) lo hi) : cRX T' (RcG X T' t) lo hi := by
  obtain ⟨y, y1, y2⟩ := h
  have := (Rc_le _ _ _ _ _ (by omega) y1).2.1 rfl
  refine ⟨y, RcG.ag _ 1 _ _ _ (by omega) y1 (fun g j a b c d w => hA g j a b c d (fun w2 => w (Or.inr ⟨rfl, Or.inr w2⟩))), ?_⟩
  rw [hA 13 y (by omega) (by omega) (by omega) (by omega) (fun w => by omega)]
  exact y2
theorem GC.p8 (h : GC X T i p) (hX : XO X) (hp : p ≤ i + 2) : p < 4008 := by
  have := h.2.1
  have := hX.1
  omega
/-- an EXPR in parentheses, of a row two -/
theorem c_mk {rw : Bool} (hX : XO X) (hnf : 100 ≤ nf) (hm : m ≤ 20) (hG : CPx nf X m) (hg : GC X T i p) (hp : p ≤ i + 3) (hq : q < p) (hd : 8 * m + 14 ≤ d) (hx : (x = 30) = (rw = true)) : wp (PP nf d 84 T [nI q, x, nI (20 - m)] []) (fun _ _ T' => CkQ X T i p q rw (pMk (xK X) (pEx (xK X) m 0) rw i) T') := by
  obtain ⟨d, rfl⟩ : ∃ g, d = g + 1 := ⟨d - 1, by omega⟩
  have hxn := hX.1
  have hi0 := hg.2.1
  have zq : inb (nI q) 4008 := nin (by omega) (by omega)
  have cq : (nI q).toNatClampNeg = q := nc (by omega)
  have e21 : nI (20 - m) + 1 = nI (21 - m) := by rw [nI_1, show 20 - m + 1 = 21 - m by omega]
  rw [e_Parser_parseMaking]
  unfold rb_Parser_parseMaking pMk
  rw [e21]
  simp only [gd, if_pos zq, cq]
  refine w_need (k := 42) hX hg rfl (by omega) (by omega) (fun k42 => ?_) (fun k42 => ?_)
  · rw [if_pos k42]
    have hi := K_lt hX k42 (by omega)
    have g1 := hg.mv (j := i + 1) (by omega)
    refine wp_bi (hG 0 (cMv T (i + 1)) (i + 1) p d (by omega) g1 (by omega) (by omega)) ?_
    intro r _ T2 h2
    generalize pEx (xK X) m 0 (i + 1) = res at *
    cases res with
    | error e =>
      obtain ⟨b2, f2, xr, er, hr⟩ := h2
      rw [stK]
      have b3 : Bd X (sI T2 17 q r) e := b2.wr (by omega)
      have f3 : FC T (sI T2 17 q r) := (FC.mv.tr f2).tr (FC.wr (by omega))
      generalize sI T2 17 q r = T3 at *
      split
      · refine wb_need hX b3 (by omega) ?_
        obtain ⟨d, rfl⟩ : ∃ g, d = g + 4 := ⟨d - 4, by omega⟩
        rw [zb_expr hX (by omega) b3 (by omega), bis, er, if_pos (nin hr (by omega)), stK]
        exact wb_need hX (b3.wr (by omega)) (by omega) (wp_some ⟨b3.wr (by omega), f3.tr (FC.wr (by omega))⟩)
      · exact wb_need hX b3 (by omega) (wp_some ⟨b3, f3⟩)
    | ok y =>
      obtain ⟨a, j⟩ := y
      obtain ⟨p2, g2, a1, a2, a3, rfl, f2, n2, v14, v15, rx⟩ := h2
      rw [if_pos rfl] at rx
      dsimp only
      rw [stK]
      have l2 := g2.2.1
      have g3 : GC X (sI T2 17 q (nI p)) j p2 := g2.wr (by omega)
      have f3 : FC T (sI T2 17 q (nI p)) := (FC.mv.tr f2).tr (FC.wr (by omega))
      have n3 : NfX T (sI T2 17 q (nI p)) p q := fun k j' b1 b2 b3 b4 => by
        rw [rdI, if_neg b4, n2 k j' b1 b2 b3]
        exact Nf.mv (p := p) k j' b1 b2 b3
      have v17 : (sI T2 17 q (nI p)).1 17 q = nI p := sI_v
      have w14 : (sI T2 17 q (nI p)).1 14 p = 0 := by rw [sI_ne (by omega)]; exact v14
      have w15 : (sI T2 17 q (nI p)).1 15 p = 0 := by rw [sI_ne (by omega)]; exact v15
      have rx3 : cRX (sI T2 17 q (nI p)) (RcG X (sI T2 17 q (nI p)) a) p p2 := rx.ag (fun g j' b1 b2 b3 b4 _ => by rw [rdI, if_neg (fun w => by omega)])
      generalize sI T2 17 q (nI p) = T3 at *
      cases rw with
      | false =>
        have hx' : ¬ x = 30 := fun w => by rw [hx] at w; exact absurd w (by decide)
        rw [if_neg hx', if_neg (by decide)]
        refine w_need (k := 43) hX g3 rfl (by omega) (by omega) (fun k43 => ?_) (fun k43 => ?_)
        · rw [if_pos k43]
          have hj := K_lt hX k43 (by omega)
          refine wp_some ⟨p2, g3.mv (by omega), by omega, by omega, by omega, f3.tr FC.mv, fun k j' b1 b2 b3 b4 => (Nf.mv (p := p) k j' b1 b2 b3).trans (n3 k j' b1 b2 b3 b4), by rw [cMv_o (by omega)]; exact v17, ⟨by rw [cMv_o (by omega)]; exact w15, fun _ => by rw [cMv_o (by omega)]; exact w14⟩, ?_⟩
          rw [if_neg (by decide)]
          exact rx3.ag (fun g j' b1 b2 b3 b4 _ => by rw [cMv_o (by omega)])
        · rw [if_neg k43]
          have l3 := g3.p8 hX (by omega)
          exact wp_some ⟨g3.bd hX (by omega), f3.tr FC.bd⟩
      | true =>
        have hx' : x = 30 := by rw [hx]
        rw [if_pos hx', if_pos rfl]
        have l3 := g3.p8 hX (by omega)
        refine w_need (k := 47) hX g3 rfl (by omega) (by omega) (fun k47 => ?_) (fun k47 => ?_)
        · rw [if_pos k47]
          have hj := K_lt hX k47 (by omega)
          have g4 := g3.mv (j := j + 1) (by omega)
          refine wp_bi (hG 0 (cMv T3 (j + 1)) (j + 1) p2 d (by omega) g4 (by omega) (by omega)) ?_
          intro r _ T4 h4
          have zp : inb (nI p) 4008 := nin (by omega) (by omega)
          have cp : (nI p).toNatClampNeg = p := nc (by omega)
          rw [if_pos zp, cp]
          generalize pEx (xK X) m 0 (j + 1) = res at *
          cases res with
          | error e =>
            obtain ⟨b4, f4, xr, er, hr⟩ := h4
            rw [stK]
            have b5 : Bd X (sI T4 14 p r) e := b4.wr (by omega)
            exact wb_need hX b5 (by omega) (wp_some ⟨b5, ((f3.tr FC.mv).tr f4).tr (FC.wr (by omega))⟩)
          | ok y =>
            obtain ⟨b, j2⟩ := y
            obtain ⟨p4, g4', b1, b2, b3, rfl, f4, n4, u14, u15, rb⟩ := h4
            rw [if_pos rfl] at rb
            dsimp only
            rw [stK]
            have g5 : GC X (sI T4 14 p (nI p2)) j2 p4 := g4'.wr (by omega)
            have f5 : FC T (sI T4 14 p (nI p2)) := ((f3.tr FC.mv).tr f4).tr (FC.wr (by omega))
            have n5 : ∀ k j', 11 ≤ k → k ≤ 18 → j' < p2 → ¬ (k = 14 ∧ j' = p) → (sI T4 14 p (nI p2)).1 k j' = T3.1 k j' := fun k j' q1 q2 q3 q4 => by
              rw [rdI, if_neg q4, n4 k j' q1 q2 q3]
              exact Nf.mv (p := p2) k j' q1 q2 q3
            have z14 : (sI T4 14 p (nI p2)).1 14 p = nI p2 := sI_v
            have rb5 : cRX (sI T4 14 p (nI p2)) (RcG X (sI T4 14 p (nI p2)) b) p2 p4 := rb.ag (fun g j' q1 q2 q3 q4 _ => by rw [rdI, if_neg (fun w => by omega)])
            generalize sI T4 14 p (nI p2) = T5 at *
            have ra5 : cRX T5 (RcG X T5 a) p p2 := rx3.ag (fun g j' q1 q2 q3 q4 q5 => n5 g j' q1 q2 (by omega) (fun w => q5 ⟨Or.inl w.1, w.2⟩))
            have l5 := g5.p8 hX (by omega)
            refine w_need (k := 43) hX g5 rfl (by omega) (by omega) (fun k43 => ?_) (fun k43 => ?_)
            · rw [if_pos k43]
              have hj2 := K_lt hX k43 (by omega)
              refine wp_some ⟨p4, g5.mv (by omega), by omega, by omega, by omega, f5.tr FC.mv, fun k j' q1 q2 q3 q4 => ?_, ?_, ?_, ?_⟩
              · rw [Nf.mv (p := p) k j' q1 q2 q3, n5 k j' q1 q2 (by omega) (fun w => by omega), n3 k j' q1 q2 q3 q4]
              · rw [cMv_o (by omega), n5 17 q (by omega) (by omega) (by omega) (fun w => by omega)]
                exact v17
              · refine ⟨?_, fun w => absurd w (by decide)⟩
                rw [cMv_o (by omega), n5 15 p (by omega) (by omega) (by omega) (fun w => by omega)]
                exact w15
              · rw [if_pos rfl]
                have mv : ∀ g j', 11 ≤ g → g ≤ 18 → (cMv T5 (j2 + 1)).1 g j' = T5.1 g j' := fun g j' q1 q2 => by rw [cMv_o (by omega)]
                exact ⟨p2, a2, b2, ra5.ag (fun g j' q1 q2 _ _ _ => mv g j' q1 q2), by rw [mv 14 p (by omega) (by omega)]; exact z14, rb5.ag (fun g j' q1 q2 _ _ _ => mv g j' q1 q2)⟩
            · rw [if_neg k43]
              exact wp_some ⟨g5.bd hX (by omega), f5.tr FC.bd⟩
        · rw [if_neg k47]
          have b4 := g3.bd hX (by omega)
          rw [zb_expr hX (by omega) b4 (by omega), bis, if_pos (nin (by omega) (by omega)), stK]
          exact wb_need hX (b4.wr (by omega)) (by omega) (wp_some ⟨b4.wr (by omega), (f3.tr FC.bd).tr (FC.wr (by omega))⟩)
  · rw [if_neg k42]
    have b1 := hg.bd hX (by omega)
    rw [zb_expr hX (by omega) b1 (by omega), bis, stK]
    have b3 : Bd X (sI (cBd X i T) 17 q 0) i := b1.wr (by omega)
    have f3 : FC T (sI (cBd X i T) 17 q 0) := FC.bd.tr (FC.wr (by omega))
    generalize sI (cBd X i T) 17 q 0 = T3 at *
    split
    · refine wb_need hX b3 (by omega) ?_
      rw [zb_expr hX (by omega) b3 (by omega), bis, if_pos (by decide), stK]
      exact wb_need hX (b3.wr (by omega)) (by omega) (wp_some ⟨b3.wr (by omega), f3.tr (FC.wr (by omega))⟩)
    · exact wb_need hX b3 (by omega) (wp_some ⟨b3, f3⟩)
end CXX
