/-! a whole head; the REGIONS of an item -/
def pHead (K : Nat → Nat) (j : Nat) : Except Nat (List Nat × Nat × Nat × Nat × Nat × Nat × Nat) := if K j = 42 then (match pPa K 7 0 (j + 1) with
  | .error e => .error e
  | .ok (l, j3) => match pRest K j3 with
    | .error e => .error e
    | .ok (rt, dt, n, wt, w, j4) => .ok (l, rt, dt, n, wt, w, j4)) else .error j
/-- the places that an item's own numbers lie at; c: its first field -/
abbrev bI (t c g j : Nat) : Prop := g = 11 ∨ g = 20 ∨ ((g = 12 ∨ g = 14 ∨ g = 15 ∨ g = 18 ∨ g = 19 ∨ g = 25 ∨ g = 27 ∨ g = 31 ∨ g = 34 ∨ g = 35) ∧ j = t) ∨ ((g = 17 ∨ g = 29) ∧ 3 * t ≤ j ∧ j < 3 * t + 3) ∨ (g = 33 ∧ 6 * t ≤ j ∧ j < 6 * t + 6) ∨ (22 ≤ g ∧ g ≤ 23 ∧ c ≤ j)
abbrev bJ (t c g j : Nat) : Prop := (g = 13 ∧ j = t) ∨ ((g = 16 ∨ g = 28) ∧ 3 * t ≤ j ∧ j < 3 * t + 3) ∨ (g = 32 ∧ 6 * t ≤ j ∧ j < 6 * t + 6) ∨ (g = 21 ∧ c ≤ j)
abbrev FI (t c : Nat) (T T' : gSt) : Prop := Fy T T' ∧ Fn T T' ∧ (∀ g j, 11 ≤ g → g ≤ 36 → ¬ bI t c g j → T'.1 g j = T.1 g j) ∧ (∀ g j, 13 ≤ g → g ≤ 32 → ¬ bJ t c g j → T'.2 g j = T.2 g j)
def HDQ (X : Lx) (T : gSt) (t c j : Nat) (res : Except Nat (List Nat × Nat × Nat × Nat × Nat × Nat × Nat)) (T' : gSt) : Prop := match res with
  | .ok (l, rt, dt, n, wt, w, j4) => j < j4 ∧ Gd X T' j4 ∧ Gw T' j4 ∧ FI t c T T' ∧ (∀ g j, g = 12 ∨ g = 14 ∨ g = 15 ∨ g = 17 ∨ g = 18 → T'.1 g j = T.1 g j) ∧ (∀ g j, g = 13 ∨ g = 16 → T'.2 g j = T.2 g j) ∧ T'.1 11 = T.1 11 ∧ nN T' = nN T ∧ T'.1 63 0 = T.1 63 0 ∧ T'.1 64 0 = nI t ∧ T'.1 62 0 = nI l.length ∧ l.length ≤ 6 ∧ T'.1 20 0 = nI (c + l.length) ∧ T'.1 19 t = nI l.length ∧ RepFs X T' c l ∧ (if rt = 0 then T'.1 25 t = T.1 25 t else ∃ w', T'.1 25 t = nI w' ∧ RepW X T' 6 w' rt) ∧ RepDW X T' t dt n wt w
  | .error e => j ≤ e ∧ Zi X e T (nN T) T' ∧ T'.1 64 0 = nI t
section IT
variable {nf d : Nat} {T T0 T1 T2 : gSt} {X : Lx} {e B i j m n v g t c q : Nat}
theorem FI.rf : FI t c T T := ⟨Fy.rf, Fn.rf, fun _ _ _ _ _ => rfl, fun _ _ _ _ _ => rfl⟩
theorem FI.tr (h : FI t c T0 T) (h2 : FI t c T T1) : FI t c T0 T1 := ⟨h.1.tr h2.1, h.2.1.tr h2.2.1, fun g j a b x => (h2.2.2.1 g j a b x).trans (h.2.2.1 g j a b x), fun g j a b x => (h2.2.2.2 g j a b x).trans (h.2.2.2 g j a b x)⟩
theorem Fz.fi (h : Fz T T1) (hn : Fn T T1) : FI t c T T1 := ⟨h.fy, hn, fun g j a b _ => congrFun (h.1 g (by omega)) j, fun g j a b _ => congrFun (h.2 g (by omega)) j⟩
theorem FI.w {j : Nat} {x : Int32} (h : FI t c T0 T) (hg : ((11 ≤ g ∧ g ≤ 36) ∨ g = 62 ∨ g = 63 ∨ g = 64)) (hb : bI t c g j ∨ 36 < g) : FI t c T0 (sI T g j x) := ⟨h.1.w (by omega), h.2.1.w hg, fun g' j' a b y => by
  rw [rdI, if_neg (fun e => by
    rw [e.1, e.2] at y
    rcases hb with hb | hb
    · exact y hb
    · omega)]
  exact h.2.2.1 g' j' a b y, h.2.2.2⟩
theorem FI.wj {j : Nat} {x : Int64} (h : FI t c T0 T) (hg : 13 ≤ g ∧ g ≤ 32) (hb : bJ t c g j) : FI t c T0 (sJ T g j x) := ⟨h.1.wj (by omega), h.2.1.wj hg, h.2.2.1, fun g' j' a b y => by
  rw [rdJ, if_neg (fun e => by
    rw [e.1, e.2] at y
    exact y hb)]
  exact h.2.2.2 g' j' a b y⟩
theorem Fdl.fi (h : Fdl t c q n T T1) : FI t c T T1 := ⟨h.1, h.2.1, fun g j a b x => h.2.2.2.2.2.2.2.1 g j a b (by omega) (by omega) (by omega), fun g j a b x => h.2.2.2.2.2.2.2.2 g j a b (by omega)⟩
theorem Fhd.fi (h : Fhd t T T1) : FI t c T T1 := ⟨h.1, h.2.1, fun g j a b x => h.2.2.2.2.2.2.1 g j a b (by omega) (by omega) (by omega), fun g j a b x => h.2.2.2.2.2.2.2 g j a b (by omega) (by omega)⟩
theorem RepF.hd (h : RepF X T c j) (hF : Fhd t T T1) : RepF X T1 c j := by
  obtain ⟨a1, a2, w, a3, a4⟩ := h
  exact ⟨(hF.2.2.2.2.2.2.2 21 c (by omega) (by omega) (by omega) (by omega)).trans a1, (hF.2.2.2.2.2.2.1 22 c (by omega) (by omega) (by omega) (by omega) (by omega)).trans a2, w, (hF.2.2.2.2.2.2.1 23 c (by omega) (by omega) (by omega) (by omega) (by omega)).trans a3, RepW.av 6 w _ hF.2.1.2.2.av a4⟩
set_option maxHeartbeats 4000000 in
theorem x_head (hX : LX X) (hnf : 5000 ≤ nf) (hG : Gd X T j) (hW : Gw T j) (hI : Ic T t c) (hc : c ≤ 200) (h19 : T.1 19 t = 0) (h62 : T.1 62 0 = 0) (h27 : T.1 27 t = 0) (h31 : T.1 31 t = 0) : wp (RR nf (d + 31) 26 T [] []) (fun _ _ T' => HDQ X T t c j (pHead (xK X) j) T') := by
  have hj := hG.1.1
  rw [e_Model_readHead]
  unfold rb_Model_readHead pHead
  refine g_need (d := d + 26) hX 42 hG rfl (by omega) (by omega) (fun k42 hj2 => ?_) (fun k42 S hz => ?_)
  · rw [if_pos k42]
    have hG1 := hG.adv hX hj2
    have e64 : (advS T).1 64 0 = nI t := by rw [advS_i (by omega)]; exact hI.1
    have e20 : (advS T).1 20 0 = nI c := by rw [advS_i (by omega)]; exact hI.2.2.1
    have f1 : FI t c T (advS T) := Fz.rf.adv.fi Fn.rf.adv
    refine x_pa (t := t) (d := d) hX hnf 7 nf 0 (advS T) (j + 1) c hG1 hW.adv ⟨e64, hI.2.1, e20, hI.2.2.2⟩ (by rw [advS_i (by omega), h19, nI_0]) (by rw [advS_i (by omega), h62, nI_0]) (by omega) (by omega) (by omega) (by omega) ?_ ?_
    · intro l j3 S hp b1 b2 b3 b4 b5 b6 b7 b8
      rw [hp]
      dsimp only
      have a27 : S.1 27 t = 0 := by rw [b5.2.2.2.2.2.2.2.1 27 t (by omega) (by omega) (by omega) (by omega) (by omega), advS_i (by omega)]; exact h27
      have a31 : S.1 31 t = 0 := by rw [b5.2.2.2.2.2.2.2.1 31 t (by omega) (by omega) (by omega) (by omega) (by omega), advS_i (by omega)]; exact h31
      have a25 : S.1 25 t = T.1 25 t := by rw [b5.2.2.2.2.2.2.2.1 25 t (by omega) (by omega) (by omega) (by omega) (by omega), advS_i (by omega)]
      refine wp_mono (x_84 (t := t) hX hnf b3 b4 b5.2.2.2.2.2.1 hI.2.1 a27 a31 b2) ?_
      intro r l' T' h
      generalize pRest (xK X) j3 = res at h ⊢
      cases res with
      | error e => exact ⟨by have := h.1; omega, (h.2.1.fy (f1.1.tr b5.1)).le (by rw [b5.2.2.2.1, nN_adv]; exact Nat.le_refl _), h.2.2⟩
      | ok x =>
        obtain ⟨rt, dt, n', wt, w, j4⟩ := x
        obtain ⟨c1, c2, c3, c4, c5, c6⟩ := h
        refine ⟨by omega, c2, c3, f1.tr (b5.fi.tr c4.fi), ?_, ?_, ?_, ?_, ?_, ?_, ?_, by omega, ?_, ?_, fun k hk => (b8 k hk).hd c4, ?_, c6⟩
        · intro g' j' hg'
          rw [c4.2.2.2.2.2.2.1 g' j' (by omega) (by omega) (by omega) (by omega) (by omega), b5.2.2.2.2.2.2.2.1 g' j' (by omega) (by omega) (by omega) (by omega) (by omega), advS_i (by omega)]
        · intro g' j' hg'
          rw [c4.2.2.2.2.2.2.2 g' j' (by omega) (by omega) (by omega) (by omega), b5.2.2.2.2.2.2.2.2 g' j' (by omega) (by omega) (by omega), advS_j (by omega)]
        · funext j'
          rw [c4.2.2.2.2.2.2.1 11 j' (by omega) (by omega) (by omega) (by omega) (by omega), b5.2.2.2.2.2.2.2.1 11 j' (by omega) (by omega) (by omega) (by omega) (by omega), advS_i (by omega)]
        · rw [c4.2.2.2.2.1, b5.2.2.2.1, nN_adv]
        · rw [c4.2.2.2.1, b5.2.2.1, advS_i (by omega)]
        · rw [c4.2.2.2.2.2.1]; exact b5.2.2.2.2.2.1
        · rw [c4.2.2.1, b6]; congr 1; omega
        · rw [c4.2.2.2.2.2.2.1 20 0 (by omega) (by omega) (by omega) (by omega) (by omega)]; exact b5.2.2.2.2.1
        · rw [c4.2.2.2.2.2.2.1 19 t (by omega) (by omega) (by omega) (by omega) (by omega), b5.2.2.2.2.2.2.1]; congr 1; omega
        · by_cases hrt : rt = 0
          · rw [if_pos hrt] at c5 ⊢; exact c5.trans a25
          · rw [if_neg hrt] at c5 ⊢; exact c5
    · intro e S hp b1 b2 b3
      rw [hp]
      refine wp_eq (b_84 b2.bd) ?_
      exact ⟨by omega, (b2.fy f1.1).le (by rw [nN_adv]; exact Nat.le_refl _), b3⟩
  · rw [if_neg k42]
    have hz' := hz.zi Fy.rf hj
    have s64 : S.1 64 0 = nI t := by rw [hz.2.2.1.1 64 (by omega)]; exact hI.1
    obtain ⟨n', rfl⟩ := nfS hnf
    rw [rl_Model_readHead_6]
    refine wp_be (q_bad1 hz'.bd) ?_
    refine wp_f (by decide) ?_
    refine wp_eq (b_84 hz'.bd) ?_
    exact ⟨Nat.le_refl _, hz', s64⟩
abbrev entR (X : Lx) (T : gSt) (t j0 k : Nat) : Prop := T.2 16 (3 * t + k) = xN X (j0 + k) ∧ T.1 17 (3 * t + k) = nI (xP X (j0 + k))
set_option maxHeartbeats 4000000 in
/-- the RS of an item, whatever comes behind -/
theorem x_rs (hX : LX X) {j0 : Nat} {x1 : Int32} {Q : Int32 → Int64 → gSt → Prop} : ∀ (f fl q : Nat) (T : gSt) (j : Nat), j = j0 + q → Gd X T j → Gw T j → T.1 64 0 = nI t → t < 24 → T.1 15 t = nI q → q ≤ 3 → 3 < q + f → f ≤ fl → (∀ k, k < q → entR X T t j0 k) → (∀ T', Gd X T' (j + rgs (xK X) (3 - q) j) → Gw T' (j + rgs (xK X) (3 - q) j) → FI t c T T' → nN T' = nN T → T'.1 64 = T.1 64 → T'.1 20 = T.1 20 → T'.1 11 = T.1 11 → T'.1 12 = T.1 12 → T'.1 14 = T.1 14 → T'.2 13 = T.2 13 → T'.1 15 t = nI (q + rgs (xK X) (3 - q) j) → (∀ k, k < q + rgs (xK X) (3 - q) j → entR X T' t j0 k) → wp (rj_Model_readItem_188 (RR nf (d + 31)) nf T' x1) Q) → wp (rl_Model_readItem_97 (RR nf (d + 31)) nf fl T x1) Q := by
  have hx := hX.1
  intro f
  induction f with
  | zero => intro fl q T j hj0 hG hW h64 ht hq h1 h2 h3 he hk; omega
  | succ f ih =>
    intro fl q T j hj0 hG hW h64 ht hq h1 h2 h3 he hk
    have hj := hG.1.1
    have tt := hX.2.2.2.2.1 j hj
    obtain ⟨fl', rfl⟩ : ∃ g, fl = g + 1 := ⟨fl - 1, by omega⟩
    have htI : inb (nI t) 24 := nin (by omega) (by omega)
    have ct : (nI t).toNatClampNeg = t := nc (by omega)
    rw [rl_Model_readItem_97]
    by_cases k4 : xK X j = 4
    · refine wp_t (by rw [hG.1.2.2.2.1]; exact (srtK_rg _ (okK_lt tt.1)).mpr k4) ?_
      refine wp_gd (by rw [h64]; exact htI) ?_
      rw [h64, ct, hq]
      by_cases q3 : q = 3
      · subst q3
        refine wp_t (by decide) ?_
        exact hk T hG hW FI.rf rfl rfl rfl rfl rfl rfl rfl hq he
      · refine wp_f (fun h => q3 (by have := (nI_leI (a := 3) (b := q) (by omega) (by omega)).mp h; omega)) ?_
        have hj2 := hG.lt hX (by omega)
        have z1 : inb (nI (3 * t + q)) 72 := nin (by omega) (by omega)
        have c1 : (nI (3 * t + q)).toNatClampNeg = 3 * t + q := nc (by omega)
        have i3 : (3 : Int32) * nI t + nI q = nI (3 * t + q) := by rw [show (3 : Int32) * nI t = nI (3 * t) from nI_mul 3 t, nI_add]
        rw [i3, c1]
        refine wp_gd htI ?_
        refine wp_gd z1 ?_
        refine wp_st ?_
        have e1 : (sJ T 16 (3 * t + q) (T.2 6 0)).1 64 0 = nI t := h64
        have e2 : (sJ T 16 (3 * t + q) (T.2 6 0)).1 15 t = nI q := hq
        have e3 : (sJ T 16 (3 * t + q) (T.2 6 0)).1 3 0 = nI (xP X j) := hG.pl
        rw [hG.1.2.2.2.2.2.2.2.2 (by omega)] at e1 e2 e3 ⊢
        refine wp_gd (by rw [e1]; exact htI) ?_
        rw [e1, ct, e2, i3, c1, e3]
        refine wp_gd z1 ?_
        refine wp_st ?_
        have g1 : (sI (sJ T 16 (3 * t + q) (xN X j)) 17 (3 * t + q) (nI (xP X j))).1 64 0 = nI t := by rw [sI_ne (by omega)]; exact e1
        have g2 : (sI (sJ T 16 (3 * t + q) (xN X j)) 17 (3 * t + q) (nI (xP X j))).1 15 t = nI q := by rw [sI_ne (by omega)]; exact e2
        refine wp_gd (by rw [g1]; exact htI) ?_
        refine wp_gd (by rw [g1]; exact htI) ?_
        refine wp_st ?_
        rw [g1, ct, g2, nI_1]
        have hG2 : Gd X (sI (sI (sJ T 16 (3 * t + q) (xN X j)) 17 (3 * t + q) (nI (xP X j))) 15 t (nI (q + 1))) j := ((hG.wj (by omega)).wh (by omega)).wh (by omega)
        have hW2 : Gw (sI (sI (sJ T 16 (3 * t + q) (xN X j)) 17 (3 * t + q) (nI (xP X j))) 15 t (nI (q + 1))) j := (hW.wj.wh (by omega)).wh (by omega)
        have hF2 : FI t c T (sI (sI (sJ T 16 (3 * t + q) (xN X j)) 17 (3 * t + q) (nI (xP X j))) 15 t (nI (q + 1))) := ((FI.rf.wj (by omega) (by omega)).w (by omega) (Or.inl (by omega))).w (by omega) (Or.inl (by omega))
        have hN2 : nN (sI (sI (sJ T 16 (3 * t + q) (xN X j)) 17 (3 * t + q) (nI (xP X j))) 15 t (nI (q + 1))) = nN T := by rw [nN_w (by omega), nN_w (by omega), nN_wj]
        have o2 : ∀ g', g' ≠ 15 → g' ≠ 17 → (sI (sI (sJ T 16 (3 * t + q) (xN X j)) 17 (3 * t + q) (nI (xP X j))) 15 t (nI (q + 1))).1 g' = T.1 g' := fun g' a b => by rw [sI_ne a, sI_ne b]; rfl
        have o13 : (sI (sI (sJ T 16 (3 * t + q) (xN X j)) 17 (3 * t + q) (nI (xP X j))) 15 t (nI (q + 1))).2 13 = T.2 13 := by
          show (sJ T 16 (3 * t + q) (xN X j)).2 13 = T.2 13
          exact sJ_ne (by omega)
        have o15 : (sI (sI (sJ T 16 (3 * t + q) (xN X j)) 17 (3 * t + q) (nI (xP X j))) 15 t (nI (q + 1))).1 15 t = nI (q + 1) := sI_v
        have ent2 : ∀ k, k < q + 1 → entR X (sI (sI (sJ T 16 (3 * t + q) (xN X j)) 17 (3 * t + q) (nI (xP X j))) 15 t (nI (q + 1))) t j0 k := by
          intro k hk
          rcases Nat.lt_or_ge k q with hlt | hge
          · obtain ⟨x1, x2⟩ := he k hlt
            exact ⟨by rw [rdIJ, rdIJ, rdJ, if_neg (by omega)]; exact x1, by rw [sI_ne (by omega), rdI, if_neg (by omega), rdJI]; exact x2⟩
          · have ek : k = q := by omega
            subst ek
            unfold entR
            rw [← hj0]
            exact ⟨by rw [rdIJ, rdIJ, sJ_v], by rw [sI_ne (by omega), sI_v]⟩
        generalize sI (sI (sJ T 16 (3 * t + q) (xN X j)) 17 (3 * t + q) (nI (xP X j))) 15 t (nI (q + 1)) = S2 at *
        refine wp_be (q_adv hX hG2.1) ?_
        have er : rgs (xK X) (3 - q) j = rgs (xK X) (3 - (q + 1)) (j + 1) + 1 := by
          rw [show 3 - q = (3 - (q + 1)) + 1 by omega, rgs, if_pos k4]
        rw [er] at hk
        refine ih fl' (q + 1) (advS S2) (j + 1) (by omega) (hG2.adv hX hj2) hW2.adv (by rw [advS_i (by omega), o2 64 (by omega) (by omega)]; exact h64) ht (by rw [advS_i (by omega)]; exact o15) (by omega) (by omega) (by omega) ?_ ?_
        · intro k hk
          obtain ⟨x1, x2⟩ := ent2 k hk
          exact ⟨(advS_j (by omega)).trans x1, (advS_i (by omega)).trans x2⟩
        · intro T' a1 a2 a3 a4 a5 a6 a7 a8 a9 a10 a11 a12
          have ea : j + 1 + rgs (xK X) (3 - (q + 1)) (j + 1) = j + (rgs (xK X) (3 - (q + 1)) (j + 1) + 1) := by omega
          have eb : q + 1 + rgs (xK X) (3 - (q + 1)) (j + 1) = q + (rgs (xK X) (3 - (q + 1)) (j + 1) + 1) := by omega
          rw [ea] at a1 a2
          rw [eb] at a11 a12
          refine hk T' a1 a2 (hF2.tr ((Fz.rf.adv.fi Fn.rf.adv).tr a3)) (by rw [a4, nN_adv, hN2]) ?_ ?_ ?_ ?_ ?_ ?_ a11 a12
          · rw [a5, advS_if (by omega), o2 64 (by omega) (by omega)]
          · rw [a6, advS_if (by omega), o2 20 (by omega) (by omega)]
          · rw [a7, advS_if (by omega), o2 11 (by omega) (by omega)]
          · rw [a8, advS_if (by omega), o2 12 (by omega) (by omega)]
          · rw [a9, advS_if (by omega), o2 14 (by omega) (by omega)]
          · rw [a10, advS_jf (by omega), o13]
    · refine wp_f (by rw [hG.1.2.2.2.1]; exact fun h => k4 ((srtK_rg _ (okK_lt tt.1)).mp h)) ?_
      have er : rgs (xK X) (3 - q) j = 0 := by
        cases h : 3 - q with
        | zero => rfl
        | succ n => rw [rgs, if_neg k4]
      rw [er] at hk
      exact hk T hG hW FI.rf rfl rfl rfl rfl rfl rfl rfl hq he
end IT
