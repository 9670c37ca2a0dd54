/-! a fun begins: what is known there */
-/
def Pq (Q : Nat → Nat → Prop) (x : Int32) : Prop := ∀ r s, 1 ≤ r → r ≤ 3 → 1 ≤ s → s ≤ 3 → fi x (4 * r + s) = true → Q r s
section SWB
variable {M0 T0 Sf S U : gSt} {X : Lx} {it t a b c r s w j v n1 N1 : Nat} {x : Int32} {Q : Nat → Nat → Prop}
theorem Pq.set (h : Pq Q x) (ha2 : r ≤ 3) (hb : 1 ≤ s) (hb2 : s ≤ 3) (hq : Q r s) : Pq Q (x ||| ((1 : Int32) <<< (nI (4 * r + s) &&& 31))) := fun p q p1 p2 q1 q2 hf => by
  rw [fi_on (by omega) (by omega)] at hf
  by_cases c : p = r ∧ q = s
  · rw [c.1, c.2]; exact hq
  · rw [if_neg (by omega)] at hf
    exact h p q p1 p2 q1 q2 hf
theorem Pq.cl (hQ : ∀ a b c, Q a b → Q b c → Q a c) (h : Pq Q (S.1 76 0)) (ha : 1 ≤ a) (ha2 : a ≤ 3) (hb : 1 ≤ b) (hb2 : b ≤ 3) (hc : 1 ≤ c) (hc2 : c ≤ 3) : Pq Q ((cl1 (nI a) (nI b) (nI c) S).1 76 0) := by
  have m4 : ∀ p q : Nat, (4 : Int32) * nI p + nI q = nI (4 * p + q) := fun p q => by
    rw [show (4 : Int32) = nI 4 from rfl, nI_mul]
    exact (Int32.ofNat_add _ _).symm
  unfold cl1
  rw [m4, m4, m4]
  have t1 := b2 (x := S.1 76 0) (n := 4 * b + a) (m := 4 * a + c) (by omega) (by omega)
  by_cases q : (((S.1 76 0 >>> (nI (4 * b + a) &&& 31)) &&& (S.1 76 0 >>> (nI (4 * a + c) &&& 31))) &&& 1) = 1
  · obtain ⟨h1, h2⟩ := t1.mp q
    rw [if_pos q, sI_v]
    exact h.set hb2 hc hc2 (hQ b a c (h b a hb hb2 ha ha2 h1) (h a c ha ha2 hc hc2 h2))
  · rw [if_neg q]
    exact h
theorem Pq.c2 (hQ : ∀ a b c, Q a b → Q b c → Q a c) (h : Pq Q (S.1 76 0)) (ha : 1 ≤ a) (ha2 : a ≤ 3) (hb : 1 ≤ b) (hb2 : b ≤ 3) : Pq Q ((cl2 (nI a) (nI b) S).1 76 0) := by
  unfold cl2
  exact Pq.cl hQ (c := 3) (Pq.cl hQ (c := 2) (Pq.cl hQ (c := 1) h ha ha2 hb hb2 (by omega) (by omega)) ha ha2 hb hb2 (by omega) (by omega)) ha ha2 hb hb2 (by omega) (by omega)
theorem Pq.c3 (hQ : ∀ a b c, Q a b → Q b c → Q a c) (h : Pq Q (S.1 76 0)) (ha : 1 ≤ a) (ha2 : a ≤ 3) : Pq Q ((cl3 (nI a) S).1 76 0) := by
  unfold cl3
  exact Pq.c2 hQ (b := 3) (Pq.c2 hQ (b := 2) (Pq.c2 hQ (b := 1) h ha ha2 (by omega) (by omega)) ha ha2 (by omega) (by omega)) ha ha2 (by omega) (by omega)
theorem Pq.cS (hQ : ∀ a b c, Q a b → Q b c → Q a c) (h : Pq Q (S.1 76 0)) : Pq Q ((clS S).1 76 0) := by
  unfold clS
  exact Pq.c3 hQ (a := 3) (Pq.c3 hQ (a := 2) (Pq.c3 hQ (a := 1) h (by omega) (by omega)) (by omega) (by omega)) (by omega) (by omega)
theorem Pq.fl : ∀ (w j : Nat) (U : gSt), (∀ nm, roI U it nm = roI S it nm) → U.2 32 = S.2 32 → Pq Q (U.1 76 0) → (∀ q, j ≤ q → q < j + w → ∃ r s, 1 ≤ r ∧ r ≤ 3 ∧ 1 ≤ s ∧ s ≤ 3 ∧ roI S it (S.2 32 (6 * it + 2 * q)) = nI r ∧ roI S it (S.2 32 (6 * it + (2 * q + 1))) = nI s ∧ Q r s) → Pq Q ((fwL it w j U).1 76 0) := by
  intro w
  induction w with
  | zero => intro j U _ _ h _; exact h
  | succ w ih =>
    intro j U hr h32 h hp
    rw [fwL]
    refine ih (j + 1) (fwS it j U) (fun nm => ?_) (by show U.2 32 = _; exact h32) ?_ (fun q q1 q2 => hp q (by omega) (by omega))
    · rw [← hr]
      unfold roI fwS
      rw [sI_ne (by omega)]
      rfl
    · obtain ⟨r, s, r1, r2, s1, s2, e1, e2, hq⟩ := hp j (by omega) (by omega)
      unfold fwS
      rw [sI_v, hr, hr, h32, show 6 * it + 2 * j + 1 = 6 * it + (2 * j + 1) by omega, e1, e2, show (4 : Int32) * nI r + nI s = nI (4 * r + s) from by
        rw [show (4 : Int32) = nI 4 from rfl, nI_mul]
        exact (Int32.ofNat_add _ _).symm]
      exact h.set r2 s1 s2 hq
theorem pq_fn (hQ : ∀ a b c, Q a b → Q b c → Q a c) (hp : ∀ q, q < w → ∃ r s, 1 ≤ r ∧ r ≤ 3 ∧ 1 ≤ s ∧ s ≤ 3 ∧ roI S it (S.2 32 (6 * it + 2 * q)) = nI r ∧ roI S it (S.2 32 (6 * it + (2 * q + 1))) = nI s ∧ Q r s) : Pq Q ((fnB it w S).1 76 0) := by
  have fq : FQ S (fnA it S) := FQ.nA
  have a0 : (fnA it S).1 76 0 = 0 := by unfold fnA; rw [sI_v]
  have h1 := Pq.fl (Q := Q) (it := it) (S := S) w 0 (fnA it S) (fun nm => roI_fq fq) (fq.2.1 32 (by omega)) (fun r s _ _ _ _ w => by rw [a0, fi_0] at w; cases w) (fun q _ q2 => hp q (by omega))
  have h2 := h1.cS hQ
  have e76 : (fnB it w S).1 76 0 = (clS (fwL it w 0 (fnA it S))).1 76 0 := by
    unfold fnB zrS
    rw [sI_ne (by omega), sI_ne (by omega), sI_ne (by omega), sI_ne (by omega), sI_ne (by omega), sI_ne (by omega), sI_ne (by omega)]
  rw [e76]
  exact h2
theorem pa_v : ∀ (k j : Nat) (T : gSt), j + k < 100 → T.1 77 0 = nI j → (∀ v, v < j → T.1 79 v = nI v ∧ T.1 80 v = T.1 24 (c + v)) → (paL c k j T).1 77 0 = nI (j + k) ∧ ∀ v, v < j + k → (paL c k j T).1 79 v = nI v ∧ (paL c k j T).1 80 v = T.1 24 (c + v) := by
  intro k
  induction k with
  | zero => intro j T _ h hv; exact ⟨h, hv⟩
  | succ k ih =>
    intro j T hj h hv
    have hvn : vn T = j := by unfold vn; rw [h, nc (by omega)]
    have o24 : (paS c j T).1 24 = T.1 24 := FQ.pa1.1 24 (by omega) (by omega)
    have o77 : (paS c j T).1 77 0 = nI (j + 1) := by unfold paS; rw [sI_ne (by omega)]; unfold seS; rw [sI_v, hvn]
    have z := ih (j + 1) (paS c j T) (by omega) o77 (fun v hv2 => ?_)
    · rw [paL, show j + (k + 1) = j + 1 + k by omega]
      rw [o24] at z
      exact z
    · rw [o24]
      have e80 : (paS c j T).1 80 v = if v = j then T.1 24 (c + j) else T.1 80 v := by
        unfold paS seS
        rw [sI_ne (by omega), sI_ne (by omega), rdI, hvn]
        by_cases z : v = j
        · rw [if_pos z, if_pos ⟨rfl, z⟩]
        · rw [if_neg z, if_neg (fun e => z e.2), sI_ne (by omega)]
          rfl
      have e79 : (paS c j T).1 79 v = if v = j then nI j else T.1 79 v := by
        unfold paS seS
        rw [sI_ne (by omega), sI_ne (by omega), sI_ne (by omega), rdI, hvn]
        by_cases z : v = j
        · rw [if_pos z, if_pos ⟨rfl, z⟩]
        · rw [if_neg z, if_neg (fun e => z e.2)]
          rfl
      rw [e79, e80]
      by_cases z : v = j
      · rw [if_pos z, if_pos z, z]
        exact ⟨rfl, rfl⟩
      · rw [if_neg z, if_neg z]
        exact hv v (by omega)
theorem ls_one {g v' g' n q : Nat} {ta : Tr} {ys no : Int32} (hw : Ws X ta 0 a b v g v' g') (hc : CdS X t M0 ta ys no S n q) : (rwC4 M0 n).1 = 0 := by
  unfold Ws at hw
  split at hw
  · next k i e a' b' =>
    unfold WsN at hw
    rw [if_neg (by omega), if_neg (by omega), if_neg (by omega)] at hw
    have k31 : ¬ k = 31 := fun w => by subst w; simp at hw
    have k11 : ¬ k = 11 := fun w => by subst w; simp at hw
    have k12 : ¬ k = 12 := fun w => by subst w; simp at hw
    have cd : CdS X t M0 (tD k i e a' b') ys no S n q := hc
    rw [CdS_n] at cd
    unfold CsN at cd
    rw [if_neg k31, if_neg k11, if_neg k12] at cd
    rw [cd.2.1]
  · exact absurd hw.1 (by omega)
  · exact hw.elim
theorem ls_beg {g v' g' n q : Nat} {ta : Tr} {ys no : Int32} (hw : Ws X ta 1 a b v g v' g') (hc : CdS X t M0 ta ys no S n q) : (rwC4 M0 n).1 = 0 ∨ isZ ta = true := by
  unfold Ws at hw
  split at hw
  · next k i e a' b' =>
    unfold WsN at hw
    rw [if_neg (by omega), if_pos rfl] at hw
    obtain ⟨rfl, c1, v1, g1, hw1, _⟩ := hw
    obtain ⟨q', _, _, cd, _⟩ : ∃ q', n ≤ q' ∧ q' ≤ q ∧ CdS X t M0 a' 0 0 S n q' ∧ CdS X t M0 b' 0 0 (stS X t a' 0 0 0 S) q' q := hc
    exact Or.inl (ls_one hw1 cd)
  · exact Or.inr rfl
  · exact hw.elim
theorem fn_pg (cx : CxP M0 T0 Sf) (hf0 : Sf.1 7 0 = 0) (ck : Ckf Sf) (hit : t < inn Sf) (h12 : Sf.1 12 t = 2) (h30 : fi (Sf.1 30 t) 0 = false) (hA : FuA X Sf M0 T0 t N1 n1) (hN : N1 ≤ 12000) : ∃ S' n' m', FnB M0 T0 Sf t S' n' m' ∧ (((rwC4 M0 n').1 = 0 ∧ ∀ k, Gdk M0 T0 Sf n1 t k n' m' S' [] []) ∨ (∃ b c e y, rwC4 M0 n' = (28, b, c, e) ∧ cw3 T0 m' = (58, nI 0, y) ∧ Sf.1 25 t < 0 ∧ n' < 12000 ∧ m' < n1)) := by
  obtain ⟨⟨xi, e, l, xrt, xdt, xn, xwt, w, bd⟩, c, S, a, b, v', g', n, q, m, r, fw, f2, hI, hw, hsg, gk, ⟨q1, q2, q3, q4, q5⟩, ⟨r1, r2, r3, r4, r5⟩, hE⟩ := hA
  dsimp only at hI hw hsg gk q4 r4 hE
  obtain ⟨hY, hO⟩ := hI
  have s18 : S.1 18 t = nI c := hY.2.1
  have s19 : S.1 19 t = nI l.length := hY.2.2.1
  have l8 : l.length ≤ 8 := hY.2.2.2.1
  have c220 : c + l.length ≤ 220 := hY.2.2.2.2.1
  have s15 : S.1 15 t = nI e := hO.2.1
  have e3 : e ≤ 3 := hO.2.2.1
  have s31 : S.1 31 t = nI w := hO.2.2.2.2.2.1
  have w3 : w ≤ 3 := hO.2.2.2.2.2.2
  have g15 : Sf.1 15 t = nI e := by rw [fw.1 15 (by omega) (by omega) (by omega)]; exact s15
  have eE : eN Sf t = e := by unfold eN; rw [g15, nc (by omega)]
  have b11 : ∀ k, k < 2 * w → ∃ a, roI Sf t (Sf.2 32 (6 * t + k)) = nI a ∧ 1 ≤ a ∧ a ≤ e := by
    obtain ⟨c', m', r', w', b1, b2, b3, b4, b5, b6, b7, b8, b9, b10, b11⟩ := ck.2.2.2.2.2 t hit
    have ew : w' = w := nI_inj (by omega) (by omega) (by rw [← b7, fw.1 31 (by omega) (by omega) (by omega), s31])
    have er : r' = e := nI_inj (by omega) (by omega) (by rw [← b5, g15])
    rw [ew, er] at b11
    exact b11
  obtain ⟨c', k', iq⟩ := cx.2.2.2.2.2 t hit
  have ec : c' = c := nI_inj (by have := iq.2.2.2.1; omega) (by omega) (by rw [← iq.1, fw.1 18 (by omega) (by omega) (by omega), s18])
  have ekl : k' = l.length := nI_inj (by have := iq.2.2.1; omega) (by omega) (by rw [← iq.2.1, fw.1 19 (by omega) (by omega) (by omega), s19])
  rw [ec, ekl] at iq
  have fqB : FQ S (fnB t w S) := FQ.nB
  have fqC : FQ S (fnC t c l.length w S) := FQ.nC
  obtain ⟨z1, z2, z3, z4, z5, z6, z7, z8, z9, z10⟩ := fnB_v (S := S) (it := t) (w := w) e3 s15
  have p : ∀ g, g ≠ 77 → g ≠ 79 → g ≠ 80 → g ≠ 81 → (fnC t c l.length w S).1 g = (fnB t w S).1 g := fun g a1 a2 a3 a4 => pa_o g a1 a2 a3 a4 _ _ _
  obtain ⟨y1, y2⟩ := pa_v (c := c) l.length 0 (fnB t w S) (by omega) z4 (fun v hv => absurd hv (Nat.not_lt_zero _))
  rw [Nat.zero_add] at y1 y2
  have y1 : (fnC t c l.length w S).1 77 0 = nI l.length := y1
  have vC : vn (fnC t c l.length w S) = l.length := by unfold vn; rw [y1, nc (by omega)]
  have y79 : ∀ v, v < l.length → (fnC t c l.length w S).1 79 v = nI v := fun v hv => (y2 v hv).1
  have y80 : ∀ v, v < l.length → (fnC t c l.length w S).1 80 v = Sf.1 24 (c + v) := fun v hv => by
    rw [fw.1 24 (by omega) (by omega) (by omega), ← fqB.1 24 (by omega) (by omega)]
    exact (y2 v hv).2
  have C71 : (fnC t c l.length w S).1 71 0 = nI e := by rw [p 71 (by omega) (by omega) (by omega) (by omega)]; exact z1
  have Crn : rn (fnC t c l.length w S) = e := by unfold rn; rw [C71, nc (by omega)]
  have C84 : (fnC t c l.length w S).1 84 0 = 0 := by rw [p 84 (by omega) (by omega) (by omega) (by omega)]; exact z8
  have Car : arn (fnC t c l.length w S) = 0 := by unfold arn; rw [C84]; rfl
  have C86 : (fnC t c l.length w S).1 86 0 = 0 := by rw [p 86 (by omega) (by omega) (by omega) (by omega)]; exact z9
  have C87 : (fnC t c l.length w S).1 87 0 = 0 := by rw [p 87 (by omega) (by omega) (by omega) (by omega)]; exact z10
  have C82 : (fnC t c l.length w S).1 82 0 = 0 := by rw [p 82 (by omega) (by omega) (by omega) (by omega)]; exact z6
  have C83 : (fnC t c l.length w S).1 83 0 = 1 := by rw [p 83 (by omega) (by omega) (by omega) (by omega)]; exact z7
  have C75 : ∀ z, z < 32 → fi ((fnC t c l.length w S).1 75 0) z = (decide (z ≤ e) && !(fi (Sf.1 30 t) z)) := fun z hz => by
    rw [p 75 (by omega) (by omega) (by omega) (by omega), fi_beg e3 s15 hz, fw.1 30 (by omega) (by omega) (by omega)]
  have rw0 : RwS (eN Sf t) (fnC t c l.length w S) := by
    rw [eE]
    refine ⟨0, 0, 0, fun _ => 0, fun _ => 0, ⟨e3, by omega, Crn, C71, C86, by omega, C84, by omega⟩, fun k hk => by rw [p 73 (by omega) (by omega) (by omega) (by omega)]; exact (z3 k hk).2, fun j hj => absurd hj (Nat.not_lt_zero _), fun i j _ hj => absurd hj (Nat.not_lt_zero _), fun j hj => absurd hj (Nat.not_lt_zero _), fun i j _ hj => absurd hj (Nat.not_lt_zero _), fun q hq => absurd hq (Nat.not_lt_zero _), fun z hz hf => ?_, ?_⟩
    · rw [C75 z hz] at hf
      exact Or.inl (of_decide_eq_true (Bool.and_eq_true_iff.mp hf).1)
    · rw [C75 0 (by omega), h30, decide_eq_true (Nat.zero_le _)]
      rfl
  have tiv : TiV Sf (fnC t c l.length w S) := fun u hu => by
    rw [y80 u (by omega)]
    exact TyOf.mo (iq.2.2.2.2.2.2.2.1 u (by omega)).2 (fun z hz => rs_sg rw0 hz)
  have jc : JS Sf t 1 (fnC t c l.length w S) [] := ⟨rw0, tiv, ⟨0, C87, by omega⟩, by omega, by rw [Car]; rfl, by show 0 + 1 ≤ 1; omega, fun h hh => absurd hh List.not_mem_nil, fun h hh => absurd hh List.not_mem_nil, fun h hh => absurd hh List.not_mem_nil⟩
  have slC : SlB (fnC t c l.length w S) l.length := ⟨by omega, by omega, fun u hu => ⟨u, y79 u (by omega), by omega⟩, fun a b ha hb he => by rw [y79 a (by omega), y79 b (by omega)] at he; exact nI_inj (by omega) (by omega) he⟩
  obtain ⟨ckC, fwC⟩ := ck0_of cx hf0 hw gk
  have ivC : IvP Sf t (fnC t c l.length w S) [] [] := jc.iv slC ckC fwC cx.2.1
  have sl : ∀ u, u ≤ l.length → slV Sf (fnC t c l.length w S) u = ofs Sf c u := by
    intro u
    induction u with
    | zero => intro _; rfl
    | succ u ih => intro hu; rw [slV, ofs, ih (by omega), y80 u (by omega)]
  have e31 : (Sf.1 31 t).toNatClampNeg = w := by rw [fw.1 31 (by omega) (by omega) (by omega), s31, nc (by omega)]
  have fnb : FnB M0 T0 Sf t (fnC t c l.length w S) n m := by
    refine ⟨c, l.length, iq, h12, q3, r3, C84, C87, fun u s ⟨a1, a2, a3, a4, a5⟩ => ?_, fun r h1 h2 h3 => ?_, fun k hk => ?_, fun r s h1 h2 h3 h4 hf Q hQ hp => ?_, ivC⟩
    · have es : u = s := nI_inj (by omega) (by omega) (by rw [← y79 u (by omega), a2])
      exact ⟨es, by omega, y80 u (by omega), sl u (by omega), by rw [C82, fi_0]⟩
    · rw [isLv_fi (by omega), C75 r (by omega)] at h3
      rw [eE]
      cases h : fi (Sf.1 30 t) r with
      | true => rw [h] at h3; exact absurd (by cases decide (r ≤ e) <;> rfl) h3
      | false =>
        refine ⟨Decidable.byContradiction fun z => h3 ?_, rfl⟩
        rw [decide_eq_false z]
        rfl
    · rw [e31] at hk
      rw [eE]
      obtain ⟨a1, a2, a3, a4⟩ := b11 (2 * k) (by omega)
      obtain ⟨d1, d2, d3, d4⟩ := b11 (2 * k + 1) (by omega)
      exact ⟨a1, d1, a2, d2, a3, a4, d3, d4⟩
    · have er : ∀ nm, roI S t nm = roI Sf t nm := fun nm => by
        have e0 : isRi S t nm = isRi Sf t nm := by
          funext k
          unfold isRi
          rw [f2 16 (by omega)]
        unfold roI
        rw [e0, s15, g15]
      have pq := pq_fn (Q := Q) (it := t) (S := S) (w := w) hQ (fun k hk => by
        obtain ⟨a1, a2, a3, a4⟩ := b11 (2 * k) (by omega)
        obtain ⟨d1, d2, d3, d4⟩ := b11 (2 * k + 1) (by omega)
        rw [f2 32 (by omega), ← er] at a2 d2
        refine ⟨a1, d1, a3, by omega, d3, by omega, a2, d2, hp k a1 d1 (by omega) (by rw [f2 32 (by omega), ← er]; exact a2) (by rw [f2 32 (by omega), ← er]; exact d2) a3 (by omega) d3 (by omega)⟩)
      rw [p 76 (by omega) (by omega) (by omega) (by omega)] at hf
      exact pq r s h1 h2 h3 h4 hf
  refine ⟨(fnC t c l.length w S), n, m, fnb, ?_⟩
  rw [← eE] at r4
  obtain ⟨i0, e0, ta, tb, rfl⟩ := tr_of hw
  obtain ⟨fa, va⟩ := fr_all (it := t) (en := eN Sf t) hf0 _ 0 0 0 _ gk rw0
  have va := va (blk_of hw)
  have hj : Sf.2 16 = (fnC t c l.length w S).2 16 ∧ Sf.2 32 = (fnC t c l.length w S).2 32 := ⟨by rw [fqC.2.1 16 (by omega)]; exact f2 16 (by omega), by rw [fqC.2.1 32 (by omega)]; exact f2 32 (by omega)⟩
  have fin : (stS X t (tD 31 i0 e0 ta tb) 0 0 0 (fnC t c l.length w S)).1 83 0 = 1 → ∀ k, Gdk M0 T0 Sf n1 t k q r (stS X t (tD 31 i0 e0 ta tb) 0 0 0 (fnC t c l.length w S)) [] [] := fun h83 k => by
    obtain ⟨c2, f3⟩ := ckf_of cx hf0 hw gk
    have iv2 := (jc.fr fa va).iv (slC.fn fa.1.fn va) c2 f3 cx.2.1
    exact gd_ru iv2 (by omega) r2 (fun h hh => absurd hh List.not_mem_nil) (fun j hj => Or.inr (Or.inr (Or.inr (Or.inr (Or.inr (Or.inr (Or.inr (Or.inr (Or.inr (Or.inr (Or.inr (Or.inr (Or.inr (Or.inr (Or.inr (Or.inr (Or.inr (Or.inr (Or.inr (Or.inr (Or.inr (⟨0, 0, 0, 0, 0, q5, r5, Or.inl ⟨hE h83, rfl, rfl⟩⟩))))))))))))))))))))))
  have go : ∀ k, Gdk M0 T0 Sf n1 t k n m (fnC t c l.length w S) [] [] := fun k => (gd_all cx hf0 hit h12 (tD 31 i0 e0 ta tb) 2 a b l.length 0 v' g' 1 0 0 0 (fnC t c l.length w S) n q m r k [] hw hsg gk q4 r4 ⟨jc, slC, by omega, C83, hj, by omega, r2, fun h hh => absurd hh List.not_mem_nil⟩ (fun h hh => absurd hh List.not_mem_nil) (fun h83 => fin h83 k)).1 (by omega)
  have ca : CdS X t M0 ta 0 0 (fnC t c l.length w S) n q := q4
  have ka : KdS X t (eN Sf t) Sf T0 ta 0 0 (fnC t c l.length w S) m r := r4
  rw [Ws_n] at hw
  unfold WsN at hw
  rw [if_pos rfl] at hw
  obtain ⟨_, hwa, _⟩ := hw
  rcases ls_beg hwa ca with h | h
  · exact Or.inl ⟨h, go⟩
  · obtain ⟨z0, rfl⟩ := isZ_num h
    have en : q = n := ca
    have em : r = m := ka
    rw [en] at q5
    rw [em] at r5
    exact Or.inr ⟨0, 0, 0, 0, q5, r5, hE C83, by omega, by omega⟩
end SWB
