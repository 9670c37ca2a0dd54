/-! a program -/
def pIts (K : Nat → Nat) : Nat → Nat → Except Nat (List It)
  | 0, i => .error i
  | f + 1, i => if K i = 10 ∨ K i = 11 ∨ K i = 12 then (match pItem K i with
    | .error e => .error e
    | .ok (x, j) => if K j = 0 then .ok [x] else match pIts K f j with
      | .error e => .error e
      | .ok l => .ok (x :: l)) else .error i
def RepP (X : Lx) (T : gSt) : Nat → Nat → Nat → List It → Prop
  | _, _, _, [] => True
  | t, c, p, x :: l => ∃ p', p ≤ p' ∧ p' ≤ nN T ∧ RepI X T t c p p' x ∧ RepP X T (t + 1) (c + x.2.2.1.length) p' l
/-- what later items leave as it was -/
abbrev cI (t c g j : Nat) : Prop := g = 11 ∨ g = 20 ∨ ((g = 12 ∨ g = 14 ∨ g = 15 ∨ g = 18 ∨ g = 19 ∨ g = 25 ∨ g = 27 ∨ g = 31 ∨ g = 34 ∨ g = 35) ∧ t ≤ j) ∨ ((g = 17 ∨ g = 29) ∧ 3 * t ≤ j) ∨ (g = 33 ∧ 6 * t ≤ j) ∨ (22 ≤ g ∧ g ≤ 23 ∧ c ≤ j)
abbrev cJ (t c g j : Nat) : Prop := (g = 13 ∧ t ≤ j) ∨ ((g = 16 ∨ g = 28) ∧ 3 * t ≤ j) ∨ (g = 32 ∧ 6 * t ≤ j) ∨ (g = 21 ∧ c ≤ j)
abbrev FJ (t c : Nat) (T T' : gSt) : Prop := Fy T T' ∧ Fn T T' ∧ (∀ g j, 11 ≤ g → g ≤ 36 → ¬ cI t c g j → T'.1 g j = T.1 g j) ∧ (∀ g j, 13 ≤ g → g ≤ 32 → ¬ cJ t c g j → T'.2 g j = T.2 g j)
def PQ (X : Lx) (T : gSt) (t c i : Nat) (res : Except Nat (List It)) (T' : gSt) : Prop := match res with
  | .ok l => ∃ j c', i ≤ j ∧ Gd X T' j ∧ Gw T' j ∧ FJ t c T T' ∧ T'.1 11 0 = nI (t + l.length) ∧ t + l.length ≤ 24 ∧ T'.1 20 0 = nI c' ∧ c' ≤ 8 * (t + l.length) ∧ RepP X T' t c (nN T) l ∧ nN T' ≤ 2 * j
  | .error e => i ≤ e ∧ Zi X e T (2 * e + 100) T'
section IX
variable {nf d : Nat} {T T0 T1 T2 : gSt} {X : Lx} {e B i j m n v g t c q : Nat}
theorem FI.fj (h : FI t c T T1) : FJ t c T T1 := ⟨h.1, h.2.1, fun g j a b x => h.2.2.1 g j a b (by omega), fun g j a b x => h.2.2.2 g j a b (by omega)⟩
theorem FJ.tr (h : FJ t c T0 T) (h2 : FJ t c T T1) : FJ t c T0 T1 := ⟨h.1.tr h2.1, h.2.1.tr h2.2.1, fun g j a b x => (h2.2.2.1 g j a b x).trans (h.2.2.1 g j a b x), fun g j a b x => (h2.2.2.2 g j a b x).trans (h.2.2.2 g j a b x)⟩
theorem FJ.up {t' c' : Nat} (h : FJ t' c' T T1) (ht : t ≤ t') (hc : c ≤ c') : FJ t c T T1 := ⟨h.1, h.2.1, fun g j a b x => h.2.2.1 g j a b (by omega), fun g j a b x => h.2.2.2 g j a b (by omega)⟩
set_option maxHeartbeats 4000000 in
theorem RepI.fj {t' c' p p' : Nat} {x : It} (h : RepI X T t c p p' x) (hp : p' ≤ nN T) (hF : FJ t' c' T T1) (ht : t < t') (hc : c + x.2.2.1.length ≤ c') : RepI X T1 t c p p' x := by
  obtain ⟨i, ee, l, rt, dt, n, wt, w, b⟩ := x
  obtain ⟨a1, a2, a3, a4, a5, a6, a7, a8, a9, a10, a11, a12, a13⟩ := h
  have hc' : c + l.length ≤ c' := hc
  clear hc
  obtain ⟨f1, f2, f3, f4⟩ := hF
  refine ⟨?_, ?_, ?_, a4, ?_, ?_, ?_, ?_, a9, ?_, ?_, ?_, ?_⟩
  · rw [f3 12 t (by omega) (by omega) (by omega)]; exact a1
  · rw [f4 13 t (by omega) (by omega) (by omega)]; exact a2
  · rw [f3 14 t (by omega) (by omega) (by omega)]; exact a3
  · rw [f3 15 t (by omega) (by omega) (by omega)]; exact a5
  · intro k hk
    unfold entR
    rw [f4 16 _ (by omega) (by omega) (by omega), f3 17 _ (by omega) (by omega) (by omega)]
    exact a6 k hk
  · rw [f3 18 t (by omega) (by omega) (by omega)]; exact a7
  · rw [f3 19 t (by omega) (by omega) (by omega)]; exact a8
  · intro k hk
    obtain ⟨x1, x2, w', x3, x4⟩ := a10 k hk
    exact ⟨by rw [f4 21 _ (by omega) (by omega) (by omega)]; exact x1, by rw [f3 22 _ (by omega) (by omega) (by omega)]; exact x2, w', by rw [f3 23 _ (by omega) (by omega) (by omega)]; exact x3, RepW.av 6 w' _ f2.2.2.av x4⟩
  · by_cases hrt : rt = 0
    · rw [if_pos hrt] at a11 ⊢
      rw [f3 25 t (by omega) (by omega) (by omega)]; exact a11
    · rw [if_neg hrt] at a11 ⊢
      obtain ⟨w', x1, x2⟩ := a11
      exact ⟨w', by rw [f3 25 t (by omega) (by omega) (by omega)]; exact x1, RepW.av 6 w' _ f2.2.2.av x2⟩
  · obtain ⟨x1, x2, x3, x4, x5, x6⟩ := a12
    refine ⟨x1, by rw [f3 27 t (by omega) (by omega) (by omega)]; exact x2, fun k hk => ?_, x4, by rw [f3 31 t (by omega) (by omega) (by omega)]; exact x5, fun k hk => ?_⟩
    · unfold entD
      rw [f4 28 _ (by omega) (by omega) (by omega), f3 29 _ (by omega) (by omega) (by omega)]
      exact x3 k hk
    · unfold entW
      rw [f4 32 _ (by omega) (by omega) (by omega), f3 33 _ (by omega) (by omega) (by omega), f4 32 _ (by omega) (by omega) (by omega), f3 33 _ (by omega) (by omega) (by omega)]
      exact x6 k hk
  · intro k12
    obtain ⟨lo, hi, h0, h1, h2⟩ := a13 k12
    refine ⟨lo, hi, h0, h1, ?_⟩
    rw [f3 34 t (by omega) (by omega) (by omega)]
    exact RepS.own ⟨fun g' j' x1 x2 x3 x4 x5 => f2.1.1 g' j' x1 x2 x3 (by omega) (by omega), fun j' x1 x2 => f2.1.2.1 j' (by omega) (by omega), f2.1.2.2⟩ f2.2.2 h2
theorem b_36 {x1 : Int32} (h : ¬ T.1 7 0 = 0) {Q : Int32 → Int64 → gSt → Prop} (hQ : Q 0 0 T) : wp (rl_Model_program__36 (RR nf (d + 33)) nf (n + 1) T x1) Q := by
  rw [rl_Model_program__36]
  refine wp_if (fun _ => wp_some hQ) (fun _ => ?_)
  refine wp_be (q_bad1 h) ?_
  refine wp_f (by decide) ?_
  exact wp_some hQ
set_option maxHeartbeats 4000000 in
/-- behind a word that opens an item -/
theorem x_90 (hX : LX X) (hnf : 5000 ≤ nf) (hd : 649 ≤ d) {y0 : Int32} {f fl : Nat} (hf : f + 1 + t = 24) (hfl : f < fl) (hp : xK X i = 10 ∧ y0 = 0 ∨ xK X i = 11 ∧ y0 = 1 ∨ xK X i = 12 ∧ y0 = 2) (hG : Gd X T i) (hW : Gw T i) (h11 : T.1 11 0 = nI t) (h20 : T.1 20 0 = nI c) (hc : c ≤ 8 * t) (hb : nN T ≤ 2 * i)
    (ih : ∀ (c : Nat) (T : gSt) (i : Nat), Gd X T i → Gw T i → T.1 11 0 = nI (t + 1) → T.1 20 0 = nI c → c ≤ 8 * (t + 1) → nN T ≤ 2 * i → wp (rl_Model_program__36 (RR nf (d + 33)) nf fl T 1) (fun _ _ T' => PQ X T (t + 1) c i (pIts (xK X) f i) T')) :
    wp (rj_Model_program__90 (RR nf (d + 33)) nf (rl_Model_program__36 (RR nf (d + 33)) nf fl) T y0) (fun _ _ T' => PQ X T t c i (pIts (xK X) (f + 1) i) T') := by
  have hx := hX.1
  have hj0 := hG.1.1
  have hj1 := hG.lt hX (by omega)
  obtain ⟨fl', rfl⟩ : ∃ g, fl = g + 1 := ⟨fl - 1, by omega⟩
  unfold rj_Model_program__90
  refine wp_f (by rcases hp with h | h | h <;> rw [h.2] <;> decide) ?_
  refine wp_f (by rw [h11]; exact fun h => by have := nI_inj (a := t) (b := 24) (by omega) (by omega) h; omega) ?_
  refine wp_be (q_adv hX hG.1) ?_
  have hG1 := hG.adv hX hj1
  refine wp_bi (x_item (t := t) (c := c) (d := d + 1) hX hnf (by omega) hp hG1 hW.adv (by rw [advS_i (by omega)]; exact h11) (by omega) (by rw [advS_i (by omega)]; exact h20) (by omega) (by rw [nN_adv]; omega)) ?_
  intro r l S h
  rw [pIts, if_pos (show xK X i = 10 ∨ xK X i = 11 ∨ xK X i = 12 by omega)]
  have fa : FJ t c T (advS T) := (Fz.rf.adv.fi Fn.rf.adv).fj
  generalize pItem (xK X) i = res at h ⊢
  cases res with
  | error e =>
    obtain ⟨a1, a2⟩ := h
    have hq : PQ X T t c i (.error e) S := ⟨by omega, a2.fy fa.1⟩
    refine wp_if (fun _ => ?_) (fun _ => ?_)
    · refine b_36 (d := d) a2.bd ?_
      exact hq
    · refine b_36 (d := d) a2.bd ?_
      exact hq
  | ok y =>
    obtain ⟨x, j⟩ := y
    obtain ⟨a1, a2, a3, a4, a5, ⟨n', a6, a7, a8⟩, a9, a10⟩ := h
    have hj := a2.1.1
    have tt := hX.2.2.2.2.1 j hj
    dsimp only
    have fs : FJ t c T S := fa.tr a4.fj
    have n1 : nN T ≤ nN S := fs.2.1.2.1
    rw [nN_adv] at a9
    by_cases k0 : xK X j = 0
    · rw [if_pos k0]
      refine wp_t (by rw [a2.1.2.2.2.1]; exact (srtK_en _ (okK_lt tt.1)).mpr k0) ?_
      rw [rl_Model_program__36]
      refine wp_t rfl ?_
      exact wp_some ⟨j, c + n', by omega, a2, a3, fs, a5, (by show t + 1 ≤ 24; omega), a7, (by show c + n' ≤ 8 * (t + 1); omega), ⟨nN S, n1, Nat.le_refl _, a9, trivial⟩, a10⟩
    · rw [if_neg k0]
      refine wp_f (by rw [a2.1.2.2.2.1]; exact fun h => k0 ((srtK_en _ (okK_lt tt.1)).mp h)) ?_
      refine wp_mono (ih (c + n') S j a2 a3 a5 a7 (by omega) a10) ?_
      intro r2 l2 S2 h2
      generalize pIts (xK X) f j = res2 at h2 ⊢
      cases res2 with
      | error e =>
        exact ⟨by have := h2.1; omega, h2.2.fy fs.1⟩
      | ok ll =>
        obtain ⟨j2, c', b1, b2, b3, b4, b5, b6, b7, b8, b9, b10⟩ := h2
        have el : t + (x :: ll).length = t + 1 + ll.length := by rw [List.length_cons]; omega
        refine ⟨j2, c', by omega, b2, b3, fs.tr (b4.up (by omega) (by omega)), by rw [el]; exact b5, by rw [el]; exact b6, b7, by rw [el]; exact b8, ⟨nN S, n1, b4.2.1.2.1, a9.fj (Nat.le_refl _) b4 (by omega) (by omega), ?_⟩, b10⟩
        rw [a8]; exact b9
set_option maxHeartbeats 4000000 in
/-- the reference reads the items as the grammar does -/
theorem x_its (hX : LX X) (hnf : 5000 ≤ nf) (hd : 649 ≤ d) : ∀ (f fl t c : Nat) (T : gSt) (i : Nat), f + t = 24 → f < fl → Gd X T i → Gw T i → T.1 11 0 = nI t → T.1 20 0 = nI c → c ≤ 8 * t → nN T ≤ 2 * i → wp (rl_Model_program__36 (RR nf (d + 33)) nf fl T 1) (fun _ _ T' => PQ X T t c i (pIts (xK X) f i) T') := by
  have hx := hX.1
  intro f
  induction f with
  | zero =>
    intro fl t c T i hf hfl hG hW h11 h20 hc hb
    obtain ⟨fl', rfl⟩ : ∃ g, fl = g + 1 := ⟨fl - 1, by omega⟩
    have ht : t = 24 := by omega
    subst ht
    have key : ∀ y0 : Int32, wp (rj_Model_program__90 (RR nf (d + 33)) nf (rl_Model_program__36 (RR nf (d + 33)) nf fl') T y0) (fun _ _ T' => PQ X T 24 c i (pIts (xK X) 0 i) T') := by
      intro y0
      have hz : Zi X i T (2 * i + 100) (failS T 1 (T.1 3 0)) := hG.zi Fy.rf (by omega)
      unfold rj_Model_program__90
      refine wp_if (fun _ => ?_) (fun _ => ?_)
      · refine wp_be (q_wrong0 hG.2.1) ?_
        exact wp_some ⟨Nat.le_refl _, hz⟩
      · refine wp_t (by rw [h11]; rfl) ?_
        refine wp_be (q_wrong0 hG.2.1) ?_
        exact wp_some ⟨Nat.le_refl _, hz⟩
    rw [rl_Model_program__36]
    refine wp_f (by decide) ?_
    refine wp_be (q_bad0 hG.2.1) ?_
    refine wp_t rfl ?_
    by_cases k6 : xK X i = wK 6
    · refine wp_be (q_wdY hX hG.1 hG.2.1 6 (by omega) (by omega) k6) ?_
      refine wp_f (by decide) ?_
      exact key 0
    · refine wp_be (q_wdN hX hG.1 6 (by omega) (by omega) k6) ?_
      refine wp_t rfl ?_
      by_cases k7 : xK X i = wK 7
      · refine wp_be (q_wdY hX hG.1 hG.2.1 7 (by omega) (by omega) k7) ?_
        refine wp_f (by decide) ?_
        exact key 1
      · refine wp_be (q_wdN hX hG.1 7 (by omega) (by omega) k7) ?_
        refine wp_t rfl ?_
        by_cases k8 : xK X i = wK 8
        · refine wp_be (q_wdY hX hG.1 hG.2.1 8 (by omega) (by omega) k8) ?_
          refine wp_f (by decide) ?_
          exact key 2
        · refine wp_be (q_wdN hX hG.1 8 (by omega) (by omega) k8) ?_
          refine wp_t rfl ?_
          exact key (-1)
  | succ f ih =>
    intro fl t c T i hf hfl hG hW h11 h20 hc hb
    obtain ⟨fl', rfl⟩ : ∃ g, fl = g + 1 := ⟨fl - 1, by omega⟩
    have key : ∀ y0 : Int32, (xK X i = 10 ∧ y0 = 0 ∨ xK X i = 11 ∧ y0 = 1 ∨ xK X i = 12 ∧ y0 = 2) → wp (rj_Model_program__90 (RR nf (d + 33)) nf (rl_Model_program__36 (RR nf (d + 33)) nf fl') T y0) (fun _ _ T' => PQ X T t c i (pIts (xK X) (f + 1) i) T') := fun y0 hy => x_90 hX hnf hd (by omega) (by omega) hy hG hW h11 h20 hc hb (fun c' T' i' a1 a2 a3 a4 a5 a6 => ih fl' (t + 1) c' T' i' (by omega) (by omega) a1 a2 a3 a4 a5 a6)
    have w6 : wK 6 = 10 := by decide
    have w7 : wK 7 = 11 := by decide
    have w8 : wK 8 = 12 := by decide
    rw [rl_Model_program__36]
    refine wp_f (by decide) ?_
    refine wp_be (q_bad0 hG.2.1) ?_
    refine wp_t rfl ?_
    by_cases k6 : xK X i = wK 6
    · refine wp_be (q_wdY hX hG.1 hG.2.1 6 (by omega) (by omega) k6) ?_
      refine wp_f (by decide) ?_
      exact key 0 (Or.inl ⟨by omega, rfl⟩)
    · refine wp_be (q_wdN hX hG.1 6 (by omega) (by omega) k6) ?_
      refine wp_t rfl ?_
      by_cases k7 : xK X i = wK 7
      · refine wp_be (q_wdY hX hG.1 hG.2.1 7 (by omega) (by omega) k7) ?_
        refine wp_f (by decide) ?_
        exact key 1 (Or.inr (Or.inl ⟨by omega, rfl⟩))
      · refine wp_be (q_wdN hX hG.1 7 (by omega) (by omega) k7) ?_
        refine wp_t rfl ?_
        by_cases k8 : xK X i = wK 8
        · refine wp_be (q_wdY hX hG.1 hG.2.1 8 (by omega) (by omega) k8) ?_
          refine wp_f (by decide) ?_
          exact key 2 (Or.inr (Or.inr ⟨by omega, rfl⟩))
        · refine wp_be (q_wdN hX hG.1 8 (by omega) (by omega) k8) ?_
          refine wp_t rfl ?_
          unfold rj_Model_program__90
          refine wp_t (by decide) ?_
          refine wp_be (q_wrong0 hG.2.1) ?_
          rw [pIts, if_neg (show ¬ (xK X i = 10 ∨ xK X i = 11 ∨ xK X i = 12) by omega)]
          exact wp_some ⟨Nat.le_refl _, hG.zi Fy.rf (by omega)⟩
end IX
